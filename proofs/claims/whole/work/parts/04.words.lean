section RULES2
variable {Z : ZT} {G : GT} {cc : ByteArray} {own : String} {nL n : Nat} {h : Hp} {pc : Nat} {lv : List (Nat × Value)} {st : List Value} {ρ : Type} {res : ρ}
theorem j_cVi {y : MethodName} {cc' : ByteArray} {mL np n' k ci idx : Nat} {ret : Option FieldType} {As rest : List Value} {fs : List (Option Nat)} {TT : u_T} {N : Nat} {o : Option (Int32 × Hp)} {f : Int32 → Hp → Option ρ} (X : CX Z G cc own nL n) (d : decode cc pc = .ok (.invokevirtual idx, 3)) (hm : Cond.methodLink own idx y ∈ TB) (hc : CK y cc' mL ret np) (hv : CV y) (hk : (k, .inl (ci, fs)) ∈ shs) (hci : vwCl[ci]? = some (y.cls, TT, N)) (hn : n' + 1 ≤ n) (hAs : As.length = np) (hrest : (rest.map fun v => v.category).sum ≤ 8) (hst : st = As.reverse ++ .ref (Z.2.1 k) :: rest)
    (hF : bi o f = some res) (hM : ∀ r h', o = some (r, h') → MC Z y cc' mL ret n' (.ref (Z.2.1 k) :: As) h (some (.int r)) h') (kk : ∀ r h', f r h' = some res → J Z G nL h' (pc + 3) lv (.int r :: rest)) : J Z G nL h pc lv st := by
  obtain ⟨r, h1, e, hF⟩ := bi_el hF
  exact j_callV X d hm hc hv hk hci hn hAs hrest hst (hM r h1 e) (kk r h1 hF)
theorem j_cVl {y : MethodName} {cc' : ByteArray} {mL np n' k ci idx : Nat} {ret : Option FieldType} {As rest : List Value} {fs : List (Option Nat)} {TT : u_T} {N : Nat} {o : Option (Int64 × Hp)} {f : Int64 → Hp → Option ρ} (X : CX Z G cc own nL n) (d : decode cc pc = .ok (.invokevirtual idx, 3)) (hm : Cond.methodLink own idx y ∈ TB) (hc : CK y cc' mL ret np) (hv : CV y) (hk : (k, .inl (ci, fs)) ∈ shs) (hci : vwCl[ci]? = some (y.cls, TT, N)) (hn : n' + 1 ≤ n) (hAs : As.length = np) (hrest : (rest.map fun v => v.category).sum ≤ 8) (hst : st = As.reverse ++ .ref (Z.2.1 k) :: rest)
    (hF : bi o f = some res) (hM : ∀ r h', o = some (r, h') → MC Z y cc' mL ret n' (.ref (Z.2.1 k) :: As) h (some (.long r)) h') (kk : ∀ r h', f r h' = some res → J Z G nL h' (pc + 3) lv (.long r :: rest)) : J Z G nL h pc lv st := by
  obtain ⟨r, h1, e, hF⟩ := bi_el hF
  exact j_callV X d hm hc hv hk hci hn hAs hrest hst (hM r h1 e) (kk r h1 hF)
theorem j_cVv {y : MethodName} {cc' : ByteArray} {mL np n' k ci idx : Nat} {ret : Option FieldType} {As rest : List Value} {fs : List (Option Nat)} {TT : u_T} {N : Nat} {o : Option Hp} {f : Hp → Option ρ} (X : CX Z G cc own nL n) (d : decode cc pc = .ok (.invokevirtual idx, 3)) (hm : Cond.methodLink own idx y ∈ TB) (hc : CK y cc' mL ret np) (hv : CV y) (hk : (k, .inl (ci, fs)) ∈ shs) (hci : vwCl[ci]? = some (y.cls, TT, N)) (hn : n' + 1 ≤ n) (hAs : As.length = np) (hrest : (rest.map fun v => v.category).sum ≤ 8) (hst : st = As.reverse ++ .ref (Z.2.1 k) :: rest)
    (hF : bv o f = some res) (hM : ∀ h', o = some h' → MC Z y cc' mL ret n' (.ref (Z.2.1 k) :: As) h none h') (kk : ∀ h', f h' = some res → J Z G nL h' (pc + 3) lv rest) : J Z G nL h pc lv st := by
  obtain ⟨h1, e, hF⟩ := bv_el hF
  exact j_callV X d hm hc hv hk hci hn hAs hrest hst (hM h1 e) (kk h1 hF)
theorem j_cSi {y : MethodName} {cc' : ByteArray} {mL np n' idx : Nat} {ret : Option FieldType} {As rest : List Value} {o : Option (Int32 × Hp)} {f : Int32 → Hp → Option ρ} (X : CX Z G cc own nL n) (d : decode cc pc = .ok (.invokestatic idx, 3)) (hm : Cond.methodLink own idx y ∈ TB) (hc : CK y cc' mL ret np) (hv : Cond.static y ∈ TB) (hn : n' + 1 ≤ n) (hAs : As.length = np) (hrest : (rest.map fun v => v.category).sum ≤ 8) (hst : st = As.reverse ++ rest)
    (hF : bi o f = some res) (hM : ∀ r h', o = some (r, h') → MC Z y cc' mL ret n' As h (some (.int r)) h') (kk : ∀ r h', f r h' = some res → J Z G nL h' (pc + 3) lv (.int r :: rest)) : J Z G nL h pc lv st := by
  obtain ⟨r, h1, e, hF⟩ := bi_el hF
  exact j_callS X d hm hc hv hn hAs hrest hst (hM r h1 e) (kk r h1 hF)
theorem j_cSl {y : MethodName} {cc' : ByteArray} {mL np n' idx : Nat} {ret : Option FieldType} {As rest : List Value} {o : Option (Int64 × Hp)} {f : Int64 → Hp → Option ρ} (X : CX Z G cc own nL n) (d : decode cc pc = .ok (.invokestatic idx, 3)) (hm : Cond.methodLink own idx y ∈ TB) (hc : CK y cc' mL ret np) (hv : Cond.static y ∈ TB) (hn : n' + 1 ≤ n) (hAs : As.length = np) (hrest : (rest.map fun v => v.category).sum ≤ 8) (hst : st = As.reverse ++ rest)
    (hF : bi o f = some res) (hM : ∀ r h', o = some (r, h') → MC Z y cc' mL ret n' As h (some (.long r)) h') (kk : ∀ r h', f r h' = some res → J Z G nL h' (pc + 3) lv (.long r :: rest)) : J Z G nL h pc lv st := by
  obtain ⟨r, h1, e, hF⟩ := bi_el hF
  exact j_callS X d hm hc hv hn hAs hrest hst (hM r h1 e) (kk r h1 hF)
theorem j_cSv {y : MethodName} {cc' : ByteArray} {mL np n' idx : Nat} {ret : Option FieldType} {As rest : List Value} {o : Option Hp} {f : Hp → Option ρ} (X : CX Z G cc own nL n) (d : decode cc pc = .ok (.invokestatic idx, 3)) (hm : Cond.methodLink own idx y ∈ TB) (hc : CK y cc' mL ret np) (hv : Cond.static y ∈ TB) (hn : n' + 1 ≤ n) (hAs : As.length = np) (hrest : (rest.map fun v => v.category).sum ≤ 8) (hst : st = As.reverse ++ rest)
    (hF : bv o f = some res) (hM : ∀ h', o = some h' → MC Z y cc' mL ret n' As h none h') (kk : ∀ h', f h' = some res → J Z G nL h' (pc + 3) lv rest) : J Z G nL h pc lv st := by
  obtain ⟨h1, e, hF⟩ := bv_el hF
  exact j_callS X d hm hc hv hn hAs hrest hst (hM h1 e) (kk h1 hF)
theorem j_ldc {idx : Nat} {v : Int32} (X : CX Z G cc own nL n) (d : decode cc pc = .ok (.ldc idx, 2)) (hc : Cond.constant own idx v ∈ TB) (k : J Z G nL h (pc + 2) lv (.int v :: st)) : J Z G nL h pc lv st := fun H locs ls hP hS hl => lv_ldc X.1 X.2.1 X.2.2.2.1 (X.2.2.2.2.1 _ hc) d (k H locs ls hP hS hl)
theorem j_ldc_w {idx : Nat} {v : Int32} (X : CX Z G cc own nL n) (d : decode cc pc = .ok (.ldc_w idx, 3)) (hc : Cond.constant own idx v ∈ TB) (k : J Z G nL h (pc + 3) lv (.int v :: st)) : J Z G nL h pc lv st := fun H locs ls hP hS hl => lv_ldcw X.1 X.2.1 X.2.2.2.1 (X.2.2.2.2.1 _ hc) d (k H locs ls hP hS hl)
theorem j_ldc2_w {idx : Nat} {v : Int64} (X : CX Z G cc own nL n) (d : decode cc pc = .ok (.ldc2_w idx, 3)) (hc : Cond.constantLong own idx v ∈ TB) (k : J Z G nL h (pc + 3) lv (.long v :: st)) : J Z G nL h pc lv st := fun H locs ls hP hS hl => lv_ldc2 X.1 X.2.1 X.2.2.2.1 (X.2.2.2.2.1 _ hc) d (k H locs ls hP hS hl)
theorem j_tab {dflt lo hi : Int} {offs : Array Int} {len tgt : Nat} {x : Int32} {A B : Option ρ} (X : CX Z G cc own nL n) (d : decode cc pc = .ok (.tableswitch dflt lo hi offs, len)) (ht : (pc : Int) + dflt = (tgt : Int)) (hF : (if x.toInt < lo ∨ hi < x.toInt then A else B) = some res) (kt : A = some res → J Z G nL h tgt lv st) (kf : B = some res → J Z G nL h pc lv (.int x :: st)) : J Z G nL h pc lv (.int x :: st) := fun H locs ls hP hS hl => by
  by_cases c : x.toInt < lo ∨ hi < x.toInt
  · exact lv_tableOut X.1 X.2.1 d c ht (kt ((if_pos c).symm.trans hF) H locs ls hP hS hl)
  · exact kf ((if_neg c).symm.trans hF) H locs ls hP hS hl
theorem j_tabi {dflt lo hi off : Int} {offs : Array Int} {len tgt : Nat} {x v : Int32} {A B : Option ρ} (X : CX Z G cc own nL n) (d : decode cc pc = .ok (.tableswitch dflt lo hi offs, len)) (h1 : decide (v.toInt < lo) = false) (h2 : decide (hi < v.toInt) = false) (ho : offs[(v.toInt - lo).toNat]? = some off) (ht : (pc : Int) + off = (tgt : Int)) (hF : (if x = v then A else B) = some res) (kt : A = some res → J Z G nL h tgt lv st) (kf : B = some res → J Z G nL h pc lv (.int x :: st)) : J Z G nL h pc lv (.int x :: st) := fun H locs ls hP hS hl => by
  by_cases c : x = v
  · have hF2 : A = some res := (if_pos c).symm.trans hF
    subst c
    exact lv_tableIn X.1 X.2.1 d (of_decide_eq_false h1) (of_decide_eq_false h2) ho ht (kt hF2 H locs ls hP hS hl)
  · exact kf ((if_neg c).symm.trans hF) H locs ls hP hS hl
theorem j_lki {dflt off : Int} {ps : Array (Int × Int)} {len tgt : Nat} {x v : Int32} {A B : Option ρ} (X : CX Z G cc own nL n) (d : decode cc pc = .ok (.lookupswitch dflt ps, len)) (hp : (ps.toList.zip (ps.toList.drop 1)).all (fun (a, next) => a.1 < next.1) = true) (ho : Op.lookupswitch.offset ps.toList dflt v.toInt = off) (ht : (pc : Int) + off = (tgt : Int)) (hF : (if x = v then A else B) = some res) (kt : A = some res → J Z G nL h tgt lv st) (kf : ¬ x = v → B = some res → J Z G nL h pc lv (.int x :: st)) : J Z G nL h pc lv (.int x :: st) := fun H locs ls hP hS hl => by
  by_cases c : x = v
  · have hF2 : A = some res := (if_pos c).symm.trans hF
    subst c
    exact lv_lookup X.1 X.2.1 d hp ho ht (kt hF2 H locs ls hP hS hl)
  · exact kf c ((if_neg c).symm.trans hF) H locs ls hP hS hl
theorem j_lkd {dflt : Int} {ps : Array (Int × Int)} {len tgt : Nat} {x : Int32} (X : CX Z G cc own nL n) (d : decode cc pc = .ok (.lookupswitch dflt ps, len)) (hp : (ps.toList.zip (ps.toList.drop 1)).all (fun (a, next) => a.1 < next.1) = true) (ho : Op.lookupswitch.offset ps.toList dflt x.toInt = dflt) (ht : (pc : Int) + dflt = (tgt : Int)) (kt : J Z G nL h tgt lv st) : J Z G nL h pc lv (.int x :: st) := fun H locs ls hP hS hl => lv_lookup X.1 X.2.1 d hp ho ht (kt H locs ls hP hS hl)
end RULES2
def FU : Nat := 20000
theorem tt_1 {w : Cond} (h : w ∈ tables_1_1) : w ∈ tables_1 := List.mem_append_left _ h
theorem tt_2 {w : Cond} (h : w ∈ tables_1_2) : w ∈ tables_1 := List.mem_append_right _ (List.mem_append_left _ h)
theorem tt_3 {w : Cond} (h : w ∈ tables_1_3) : w ∈ tables_1 := List.mem_append_right _ (List.mem_append_right _ (List.mem_append_left _ h))
theorem tt_4 {w : Cond} (h : w ∈ tables_1_4) : w ∈ tables_1 := List.mem_append_right _ (List.mem_append_right _ (List.mem_append_right _ (List.mem_append_left _ h)))
theorem tt_5 {w : Cond} (h : w ∈ tables_1_5) : w ∈ tables_1 := List.mem_append_right _ (List.mem_append_right _ (List.mem_append_right _ (List.mem_append_right _ (List.mem_append_left _ h))))
theorem tt_6 {w : Cond} (h : w ∈ tables_1_6) : w ∈ tables_1 := List.mem_append_right _ (List.mem_append_right _ (List.mem_append_right _ (List.mem_append_right _ (List.mem_append_right _ (List.mem_append_left _ h)))))
theorem tt_7 {w : Cond} (h : w ∈ tables_1_7) : w ∈ tables_1 := List.mem_append_right _ (List.mem_append_right _ (List.mem_append_right _ (List.mem_append_right _ (List.mem_append_right _ (List.mem_append_right _ (List.mem_append_left _ h))))))
theorem tt_8 {w : Cond} (h : w ∈ tables_1_8) : w ∈ tables_1 := List.mem_append_right _ (List.mem_append_right _ (List.mem_append_right _ (List.mem_append_right _ (List.mem_append_right _ (List.mem_append_right _ (List.mem_append_right _ (List.mem_append_left _ h)))))))
theorem tt_9 {w : Cond} (h : w ∈ tables_1_9) : w ∈ tables_1 := List.mem_append_right _ (List.mem_append_right _ (List.mem_append_right _ (List.mem_append_right _ (List.mem_append_right _ (List.mem_append_right _ (List.mem_append_right _ (List.mem_append_right _ (h))))))))
theorem tp_1 {w : MethodName × Nat} (h : w ∈ lw_privs_1) : w ∈ lw_privs := List.mem_append_left _ h
theorem tp_2 {w : MethodName × Nat} (h : w ∈ lw_privs_2) : w ∈ lw_privs := List.mem_append_right _ (List.mem_append_left _ h)
theorem tp_3 {w : MethodName × Nat} (h : w ∈ lw_privs_3) : w ∈ lw_privs := List.mem_append_right _ (List.mem_append_right _ (List.mem_append_left _ h))
theorem tp_4 {w : MethodName × Nat} (h : w ∈ lw_privs_4) : w ∈ lw_privs := List.mem_append_right _ (List.mem_append_right _ (List.mem_append_right _ (List.mem_append_left _ h)))
theorem tp_5 {w : MethodName × Nat} (h : w ∈ lw_privs_5) : w ∈ lw_privs := List.mem_append_right _ (List.mem_append_right _ (List.mem_append_right _ (List.mem_append_right _ (List.mem_append_left _ h))))
theorem tp_6 {w : MethodName × Nat} (h : w ∈ lw_privs_6) : w ∈ lw_privs := List.mem_append_right _ (List.mem_append_right _ (List.mem_append_right _ (List.mem_append_right _ (List.mem_append_right _ (List.mem_append_left _ h)))))
theorem tp_7 {w : MethodName × Nat} (h : w ∈ lw_privs_7) : w ∈ lw_privs := List.mem_append_right _ (List.mem_append_right _ (List.mem_append_right _ (List.mem_append_right _ (List.mem_append_right _ (List.mem_append_right _ (List.mem_append_left _ h))))))
theorem tp_8 {w : MethodName × Nat} (h : w ∈ lw_privs_8) : w ∈ lw_privs := List.mem_append_right _ (List.mem_append_right _ (List.mem_append_right _ (List.mem_append_right _ (List.mem_append_right _ (List.mem_append_right _ (List.mem_append_right _ (h)))))))
theorem inlX0 : ∀ w ∈ wsX00, w ∈ tables_1_2 := by decide +kernel
theorem ingX0 : ∀ w ∈ wsX00, goodWord w = true := by decide +kernel
theorem inX0 : ∀ w ∈ wsX00, w ∈ TB := fun w hw => tb_mem (tb_tab (have h := inlX0 w hw; tt_2 h)) (ingX0 w hw)
theorem inlX1 : ∀ w ∈ wsX10, w ∈ tables_1_2 := by decide +kernel
theorem ingX1 : ∀ w ∈ wsX10, goodWord w = true := by decide +kernel
theorem inX1 : ∀ w ∈ wsX10, w ∈ TB := fun w hw => tb_mem (tb_tab (have h := inlX1 w hw; tt_2 h)) (ingX1 w hw)
theorem inlX2 : ∀ w ∈ wsX20, w ∈ tables_1_2 := by decide +kernel
theorem ingX2 : ∀ w ∈ wsX20, goodWord w = true := by decide +kernel
theorem inX2 : ∀ w ∈ wsX20, w ∈ TB := fun w hw => tb_mem (tb_tab (have h := inlX2 w hw; tt_2 h)) (ingX2 w hw)
theorem inlX3 : ∀ w ∈ wsX30, w ∈ tables_1_2 := by decide +kernel
theorem ingX3 : ∀ w ∈ wsX30, goodWord w = true := by decide +kernel
theorem inX3 : ∀ w ∈ wsX30, w ∈ TB := fun w hw => tb_mem (tb_tab (have h := inlX3 w hw; tt_2 h)) (ingX3 w hw)
theorem inlX4 : ∀ w ∈ wsX40, w ∈ tables_1_1 := by decide +kernel
theorem ingX4 : ∀ w ∈ wsX40, goodWord w = true := by decide +kernel
theorem inX4 : ∀ w ∈ wsX40, w ∈ TB := fun w hw => tb_mem (tb_tab (have h := inlX4 w hw; tt_1 h)) (ingX4 w hw)
theorem inlX5 : ∀ w ∈ wsX50, w ∈ tables_1_2 := by decide +kernel
theorem ingX5 : ∀ w ∈ wsX50, goodWord w = true := by decide +kernel
theorem inX5 : ∀ w ∈ wsX50, w ∈ TB := fun w hw => tb_mem (tb_tab (have h := inlX5 w hw; tt_2 h)) (ingX5 w hw)
theorem inlX6 : ∀ w ∈ wsX60, w ∈ tables_1_2 := by decide +kernel
theorem ingX6 : ∀ w ∈ wsX60, goodWord w = true := by decide +kernel
theorem inX6 : ∀ w ∈ wsX60, w ∈ TB := fun w hw => tb_mem (tb_tab (have h := inlX6 w hw; tt_2 h)) (ingX6 w hw)
theorem inlX7 : ∀ w ∈ wsX70, w ∈ tables_1_3 := by decide +kernel
theorem ingX7 : ∀ w ∈ wsX70, goodWord w = true := by decide +kernel
theorem inX7 : ∀ w ∈ wsX70, w ∈ TB := fun w hw => tb_mem (tb_tab (have h := inlX7 w hw; tt_3 h)) (ingX7 w hw)
theorem inlX8 : ∀ w ∈ wsX80, w ∈ tables_1_1 := by decide +kernel
theorem ingX8 : ∀ w ∈ wsX80, goodWord w = true := by decide +kernel
theorem inX8 : ∀ w ∈ wsX80, w ∈ TB := fun w hw => tb_mem (tb_tab (have h := inlX8 w hw; tt_1 h)) (ingX8 w hw)
theorem inlX9 : ∀ w ∈ wsX90, w ∈ tables_1_1 := by decide +kernel
theorem ingX9 : ∀ w ∈ wsX90, goodWord w = true := by decide +kernel
theorem inX9 : ∀ w ∈ wsX90, w ∈ TB := fun w hw => tb_mem (tb_tab (have h := inlX9 w hw; tt_1 h)) (ingX9 w hw)
theorem inlX10 : ∀ w ∈ wsX100, w ∈ tables_1_3 := by decide +kernel
theorem ingX10 : ∀ w ∈ wsX100, goodWord w = true := by decide +kernel
theorem inX10 : ∀ w ∈ wsX100, w ∈ TB := fun w hw => tb_mem (tb_tab (have h := inlX10 w hw; tt_3 h)) (ingX10 w hw)
theorem inlX11 : ∀ w ∈ wsX110, w ∈ tables_1_3 := by decide +kernel
theorem ingX11 : ∀ w ∈ wsX110, goodWord w = true := by decide +kernel
theorem inX11 : ∀ w ∈ wsX110, w ∈ TB := fun w hw => tb_mem (tb_tab (have h := inlX11 w hw; tt_3 h)) (ingX11 w hw)
theorem inlX12 : ∀ w ∈ wsX120, w ∈ tables_1_6 ++ tables_1_7 := by decide +kernel
theorem ingX12 : ∀ w ∈ wsX120, goodWord w = true := by decide +kernel
theorem inX12 : ∀ w ∈ wsX120, w ∈ TB := fun w hw => tb_mem (tb_tab (have h := inlX12 w hw; (List.mem_append.mp h).elim (fun h => tt_6 h) (fun h => tt_7 h))) (ingX12 w hw)
theorem ml_X12_219 : Cond.methodLink "AfterOfficeModel" 219 yX12_put ∈ TB := tb_mem (tb_tab (tt_7 (List.mem_of_getElem? (i := 95) rfl))) rfl
theorem ml_X12_228 : Cond.methodLink "AfterOfficeModel" 228 yX12_appends ∈ TB := tb_mem (tb_tab (tt_6 (List.mem_of_getElem? (i := 50) rfl))) rfl
theorem ml_X12_235 : Cond.methodLink "AfterOfficeModel" 235 yX12_byteAt ∈ TB := tb_mem (tb_tab (tt_7 (List.mem_of_getElem? (i := 111) rfl))) rfl
theorem ml_X12_239 : Cond.methodLink "AfterOfficeModel" 239 yX12_token ∈ TB := tb_mem (tb_tab (tt_7 (List.mem_of_getElem? (i := 115) rfl))) rfl
theorem ml_X12_243 : Cond.methodLink "AfterOfficeModel" 243 yX12_isLetter ∈ TB := tb_mem (tb_tab (tt_7 (List.mem_of_getElem? (i := 119) rfl))) rfl
theorem ml_X12_247 : Cond.methodLink "AfterOfficeModel" 247 yX12_isDigit ∈ TB := tb_mem (tb_tab (tt_7 (List.mem_of_getElem? (i := 122) rfl))) rfl
theorem ml_X12_250 : Cond.methodLink "AfterOfficeModel" 250 yX12_sign ∈ TB := tb_mem (tb_tab (tt_7 (List.mem_of_getElem? (i := 125) rfl))) rfl
theorem ml_X12_269 : Cond.methodLink "AfterOfficeModel" 269 yX12_fail ∈ TB := tb_mem (tb_tab (tt_7 (List.mem_of_getElem? (i := 137) rfl))) rfl
theorem ml_X12_272 : Cond.methodLink "AfterOfficeModel" 272 yX12_is ∈ TB := tb_mem (tb_tab (tt_7 (List.mem_of_getElem? (i := 129) rfl))) rfl
theorem ml_X12_275 : Cond.methodLink "AfterOfficeModel" 275 yX12_goesOn ∈ TB := tb_mem (tb_tab (tt_7 (List.mem_of_getElem? (i := 145) rfl))) rfl
theorem ml_X12_278 : Cond.methodLink "AfterOfficeModel" 278 yX12_cut ∈ TB := tb_mem (tb_tab (tt_7 (List.mem_of_getElem? (i := 107) rfl))) rfl
theorem ml_X12_299 : Cond.methodLink "AfterOfficeModel" 299 yX12_tell ∈ TB := tb_mem (tb_tab (tt_7 (List.mem_of_getElem? (i := 133) rfl))) rfl
theorem ml_X12_302 : Cond.methodLink "AfterOfficeModel" 302 yX12_findsRead ∈ TB := tb_mem (tb_tab (tt_7 (List.mem_of_getElem? (i := 213) rfl))) rfl
theorem ml_X12_308 : Cond.methodLink "AfterOfficeModel" 308 yX12_find ∈ TB := tb_mem (tb_tab (tt_7 (List.mem_of_getElem? (i := 181) rfl))) rfl
theorem ml_X12_312 : Cond.methodLink "AfterOfficeModel" 312 yX12_amiss ∈ TB := tb_mem (tb_tab (tt_7 (List.mem_of_getElem? (i := 157) rfl))) rfl
theorem ml_X12_316 : Cond.methodLink "AfterOfficeModel" 316 yX12_tellPerson ∈ TB := tb_mem (tb_tab (tt_7 (List.mem_of_getElem? (i := 141) rfl))) rfl
theorem ml_X12_319 : Cond.methodLink "AfterOfficeModel" 319 yX12_tellClerk ∈ TB := tb_mem (tb_tab (tt_7 (List.mem_of_getElem? (i := 169) rfl))) rfl
theorem ml_X12_322 : Cond.methodLink "AfterOfficeModel" 322 yX12_tellBar ∈ TB := tb_mem (tb_tab (tt_7 (List.mem_of_getElem? (i := 173) rfl))) rfl
theorem ml_X12_325 : Cond.methodLink "AfterOfficeModel" 325 yX12_tellLetter ∈ TB := tb_mem (tb_tab (tt_7 (List.mem_of_getElem? (i := 185) rfl))) rfl
theorem ml_X12_328 : Cond.methodLink "AfterOfficeModel" 328 yX12_bounded ∈ TB := tb_mem (tb_tab (tt_7 (List.mem_of_getElem? (i := 161) rfl))) rfl
theorem ml_X12_331 : Cond.methodLink "AfterOfficeModel" 331 yX12_must ∈ TB := tb_mem (tb_tab (tt_7 (List.mem_of_getElem? (i := 153) rfl))) rfl
theorem ml_X12_334 : Cond.methodLink "AfterOfficeModel" 334 yX12_expression ∈ TB := tb_mem (tb_tab (tt_7 (List.mem_of_getElem? (i := 197) rfl))) rfl
theorem ml_X12_337 : Cond.methodLink "AfterOfficeModel" 337 yX12_named ∈ TB := tb_mem (tb_tab (tt_7 (List.mem_of_getElem? (i := 149) rfl))) rfl
theorem ml_X12_341 : Cond.methodLink "AfterOfficeModel" 341 yX12_notes ∈ TB := tb_mem (tb_tab (tt_7 (List.mem_of_getElem? (i := 165) rfl))) rfl
theorem ml_X12_345 : Cond.methodLink "AfterOfficeModel" 345 yX12_known ∈ TB := tb_mem (tb_tab (tt_7 (List.mem_of_getElem? (i := 177) rfl))) rfl
theorem ml_X12_348 : Cond.methodLink "AfterOfficeModel" 348 yX12_condition ∈ TB := tb_mem (tb_tab (tt_7 (List.mem_of_getElem? (i := 189) rfl))) rfl
theorem ml_X12_351 : Cond.methodLink "AfterOfficeModel" 351 yX12_literal ∈ TB := tb_mem (tb_tab (tt_7 (List.mem_of_getElem? (i := 193) rfl))) rfl
theorem ml_X12_358 : Cond.methodLink "AfterOfficeModel" 358 yX12_emit ∈ TB := tb_mem (tb_tab (tt_7 (List.mem_of_getElem? (i := 205) rfl))) rfl
theorem ml_X12_361 : Cond.methodLink "AfterOfficeModel" 361 yX12_unit ∈ TB := tb_mem (tb_tab (tt_7 (List.mem_of_getElem? (i := 201) rfl))) rfl
theorem ml_X12_364 : Cond.methodLink "AfterOfficeModel" 364 yX12_comesOut ∈ TB := tb_mem (tb_tab (tt_7 (List.mem_of_getElem? (i := 209) rfl))) rfl
theorem ml_X12_377 : Cond.methodLink "AfterOfficeModel" 377 yX12_termOf ∈ TB := tb_mem (tb_tab (tt_8 (List.mem_of_getElem? (i := 23) rfl))) rfl
theorem ml_X12_380 : Cond.methodLink "AfterOfficeModel" 380 yX12_isTrue ∈ TB := tb_mem (tb_tab (tt_8 (List.mem_of_getElem? (i := 134) rfl))) rfl
theorem ml_X12_383 : Cond.methodLink "AfterOfficeModel" 383 yX12_in ∈ TB := tb_mem (tb_tab (tt_7 (List.mem_of_getElem? (i := 229) rfl))) rfl
theorem ml_X12_387 : Cond.methodLink "AfterOfficeModel" 387 yX12_held ∈ TB := tb_mem (tb_tab (tt_8 (List.mem_of_getElem? (i := 27) rfl))) rfl
theorem ml_X12_390 : Cond.methodLink "AfterOfficeModel" 390 yX12_sees ∈ TB := tb_mem (tb_tab (tt_8 (List.mem_of_getElem? (i := 15) rfl))) rfl
theorem ml_X12_394 : Cond.methodLink "AfterOfficeModel" 394 yX12_says ∈ TB := tb_mem (tb_tab (tt_8 (List.mem_of_getElem? (i := 19) rfl))) rfl
theorem ml_X12_397 : Cond.methodLink "AfterOfficeModel" 397 yX12_holdsRule ∈ TB := tb_mem (tb_tab (tt_8 (List.mem_of_getElem? (i := 130) rfl))) rfl
theorem ml_X12_400 : Cond.methodLink "AfterOfficeModel" 400 yX12_hasLetter ∈ TB := tb_mem (tb_tab (tt_7 (List.mem_of_getElem? (i := 225) rfl))) rfl
theorem ml_X12_403 : Cond.methodLink "AfterOfficeModel" 403 yX12_writer ∈ TB := tb_mem (tb_tab (tt_7 (List.mem_of_getElem? (i := 232) rfl))) rfl
theorem ml_X12_406 : Cond.methodLink "AfterOfficeModel" 406 yX12_reader ∈ TB := tb_mem (tb_tab (tt_7 (List.mem_of_getElem? (i := 236) rfl))) rfl
theorem ml_X12_409 : Cond.methodLink "AfterOfficeModel" 409 yX12_isPerson ∈ TB := tb_mem (tb_tab (tt_8 (List.mem_of_getElem? (i := 4) rfl))) rfl
theorem ml_X12_412 : Cond.methodLink "AfterOfficeModel" 412 yX12_isYear ∈ TB := tb_mem (tb_tab (tt_8 (List.mem_of_getElem? (i := 8) rfl))) rfl
theorem ml_X12_415 : Cond.methodLink "AfterOfficeModel" 415 yX12_diesBy ∈ TB := tb_mem (tb_tab (tt_8 (List.mem_of_getElem? (i := 11) rfl))) rfl
theorem ml_X12_418 : Cond.methodLink "AfterOfficeModel" 418 yX12_feeOf ∈ TB := tb_mem (tb_tab (tt_8 (List.mem_of_getElem? (i := 34) rfl))) rfl
theorem ml_X12_421 : Cond.methodLink "AfterOfficeModel" 421 yX12_isBarred ∈ TB := tb_mem (tb_tab (tt_8 (List.mem_of_getElem? (i := 46) rfl))) rfl
theorem ml_X12_425 : Cond.methodLink "AfterOfficeModel" 425 yX12_canCome ∈ TB := tb_mem (tb_tab (tt_8 (List.mem_of_getElem? (i := 54) rfl))) rfl
theorem ml_X12_428 : Cond.methodLink "AfterOfficeModel" 428 yX12_comes ∈ TB := tb_mem (tb_tab (tt_8 (List.mem_of_getElem? (i := 58) rfl))) rfl
theorem ml_X12_432 : Cond.methodLink "AfterOfficeModel" 432 yX12_counts ∈ TB := tb_mem (tb_tab (tt_8 (List.mem_of_getElem? (i := 102) rfl))) rfl
theorem ml_X12_435 : Cond.methodLink "AfterOfficeModel" 435 yX12_isKnown ∈ TB := tb_mem (tb_tab (tt_8 (List.mem_of_getElem? (i := 94) rfl))) rfl
theorem ml_X12_438 : Cond.methodLink "AfterOfficeModel" 438 yX12_weightOf ∈ TB := tb_mem (tb_tab (tt_8 (List.mem_of_getElem? (i := 98) rfl))) rfl
theorem ml_X12_453 : Cond.methodLink "AfterOfficeModel" 453 yX12_becomes ∈ TB := tb_mem (tb_tab (tt_8 (List.mem_of_getElem? (i := 122) rfl))) rfl
theorem ml_X12_456 : Cond.methodLink "AfterOfficeModel" 456 yX12_holdsFor ∈ TB := tb_mem (tb_tab (tt_8 (List.mem_of_getElem? (i := 126) rfl))) rfl
theorem ml_X12_460 : Cond.methodLink "AfterOfficeModel" 460 yX12_floods ∈ TB := tb_mem (tb_tab (tt_8 (List.mem_of_getElem? (i := 138) rfl))) rfl
theorem ml_X12_463 : Cond.methodLink "AfterOfficeModel" 463 yX12_isClerkBarred ∈ TB := tb_mem (tb_tab (tt_8 (List.mem_of_getElem? (i := 154) rfl))) rfl
theorem ml_X12_466 : Cond.methodLink "AfterOfficeModel" 466 yX12_isDue ∈ TB := tb_mem (tb_tab (tt_8 (List.mem_of_getElem? (i := 150) rfl))) rfl
theorem ml_X12_469 : Cond.methodLink "AfterOfficeModel" 469 yX12_starts ∈ TB := tb_mem (tb_tab (tt_8 (List.mem_of_getElem? (i := 114) rfl))) rfl
theorem ml_X12_472 : Cond.methodLink "AfterOfficeModel" 472 yX12_happens ∈ TB := tb_mem (tb_tab (tt_8 (List.mem_of_getElem? (i := 118) rfl))) rfl
theorem ml_X12_476 : Cond.methodLink "AfterOfficeModel" 476 yX12_pays ∈ TB := tb_mem (tb_tab (tt_8 (List.mem_of_getElem? (i := 142) rfl))) rfl
theorem ml_X12_479 : Cond.methodLink "AfterOfficeModel" 479 yX12_looksNow ∈ TB := tb_mem (tb_tab (tt_8 (List.mem_of_getElem? (i := 146) rfl))) rfl
theorem ml_X12_482 : Cond.methodLink "AfterOfficeModel" 482 yX12_runs ∈ TB := tb_mem (tb_tab (tt_8 (List.mem_of_getElem? (i := 110) rfl))) rfl
theorem ml_X12_486 : Cond.methodLink "AfterOfficeModel" 486 yX12_runsAll ∈ TB := tb_mem (tb_tab (tt_8 (List.mem_of_getElem? (i := 170) rfl))) rfl
theorem ml_X12_489 : Cond.methodLink "AfterOfficeModel" 489 yX12_keepsYearly ∈ TB := tb_mem (tb_tab (tt_8 (List.mem_of_getElem? (i := 178) rfl))) rfl
theorem ml_X12_492 : Cond.methodLink "AfterOfficeModel" 492 yX12_isEach ∈ TB := tb_mem (tb_tab (tt_8 (List.mem_of_getElem? (i := 190) rfl))) rfl
theorem ml_X12_495 : Cond.methodLink "AfterOfficeModel" 495 yX12_isWatched ∈ TB := tb_mem (tb_tab (tt_8 (List.mem_of_getElem? (i := 197) rfl))) rfl
theorem ml_X12_498 : Cond.methodLink "AfterOfficeModel" 498 yX12_goodOf ∈ TB := tb_mem (tb_tab (tt_8 (List.mem_of_getElem? (i := 209) rfl))) rfl
theorem ml_X12_501 : Cond.methodLink "AfterOfficeModel" 501 yX12_gains ∈ TB := tb_mem (tb_tab (tt_8 (List.mem_of_getElem? (i := 205) rfl))) rfl
theorem ml_X12_504 : Cond.methodLink "AfterOfficeModel" 504 yX12_asksOf ∈ TB := tb_mem (tb_tab (tt_8 (List.mem_of_getElem? (i := 229) rfl))) rfl
theorem ml_X12_507 : Cond.methodLink "AfterOfficeModel" 507 yX12_closes ∈ TB := tb_mem (tb_tab (tt_8 (List.mem_of_getElem? (i := 237) rfl))) rfl
theorem ml_X12_510 : Cond.methodLink "AfterOfficeModel" 510 yX12_ringOf ∈ TB := tb_mem (tb_tab (tt_9 (List.mem_of_getElem? (i := 1) rfl))) rfl
theorem ml_X12_513 : Cond.methodLink "AfterOfficeModel" 513 yX12_bits ∈ TB := tb_mem (tb_tab (tt_9 (List.mem_of_getElem? (i := 13) rfl))) rfl
theorem ml_X12_516 : Cond.methodLink "AfterOfficeModel" 516 yX12_hasRings ∈ TB := tb_mem (tb_tab (tt_9 (List.mem_of_getElem? (i := 16) rfl))) rfl
theorem ml_X12_528 : Cond.methodLink "AfterOfficeModel" 528 yX12_areSets ∈ TB := tb_mem (tb_tab (tt_9 (List.mem_of_getElem? (i := 24) rfl))) rfl
theorem ml_X12_531 : Cond.methodLink "AfterOfficeModel" 531 yX12_needs ∈ TB := tb_mem (tb_tab (tt_9 (List.mem_of_getElem? (i := 28) rfl))) rfl
theorem ml_X12_534 : Cond.methodLink "AfterOfficeModel" 534 yX12_mayBeOpened ∈ TB := tb_mem (tb_tab (tt_9 (List.mem_of_getElem? (i := 40) rfl))) rfl
theorem ml_X12_537 : Cond.methodLink "AfterOfficeModel" 537 yX12_fillLooks ∈ TB := tb_mem (tb_tab (tt_9 (List.mem_of_getElem? (i := 36) rfl))) rfl
theorem ml_X12_546 : Cond.methodLink "AfterOfficeModel" 546 yX12_waysOf ∈ TB := tb_mem (tb_tab (tt_9 (List.mem_of_getElem? (i := 54) rfl))) rfl
theorem ml_X12_550 : Cond.methodLink "AfterOfficeModel" 550 yX12_lookFrom ∈ TB := tb_mem (tb_tab (tt_9 (List.mem_of_getElem? (i := 59) rfl))) rfl
theorem ml_X12_554 : Cond.methodLink "AfterOfficeModel" 554 yX12_mixed ∈ TB := tb_mem (tb_tab (tt_9 (List.mem_of_getElem? (i := 74) rfl))) rfl
theorem ml_X12_557 : Cond.methodLink "AfterOfficeModel" 557 yX12_lot ∈ TB := tb_mem (tb_tab (tt_9 (List.mem_of_getElem? (i := 71) rfl))) rfl
theorem ml_X12_560 : Cond.methodLink "AfterOfficeModel" 560 yX12_livesBy ∈ TB := tb_mem (tb_tab (tt_9 (List.mem_of_getElem? (i := 67) rfl))) rfl
theorem ml_X12_563 : Cond.methodLink "AfterOfficeModel" 563 yX12_those ∈ TB := tb_mem (tb_tab (tt_9 (List.mem_of_getElem? (i := 78) rfl))) rfl
theorem ck_X12_amiss : CK yX12_amiss cX12_amiss 4 none 2 := ⟨tb_mem (tb_tab (tt_7 (List.mem_of_getElem? (i := 160) rfl))) rfl, tb_mem (tb_tab (tt_1 (List.mem_of_getElem? (i := 18) rfl))) rfl, by decide, by decide⟩
theorem ck_X12_appends : CK yX12_appends cX12_appends 3 (some .long) 2 := ⟨tb_mem (tb_tab (tt_6 (List.mem_of_getElem? (i := 52) rfl))) rfl, tb_mem (tb_tab (tt_1 (List.mem_of_getElem? (i := 18) rfl))) rfl, by decide, by decide⟩
theorem ck_X12_areSets : CK yX12_areSets cX12_areSets 3 (some .boolean) 2 := ⟨tb_mem (tb_tab (tt_9 (List.mem_of_getElem? (i := 27) rfl))) rfl, tb_mem (tb_tab (tt_1 (List.mem_of_getElem? (i := 18) rfl))) rfl, by decide, by decide⟩
theorem ck_X12_asksOf : CK yX12_asksOf cX12_asksOf 4 (some .int) 1 := ⟨tb_mem (tb_tab (tt_8 (List.mem_of_getElem? (i := 232) rfl))) rfl, tb_mem (tb_tab (tt_1 (List.mem_of_getElem? (i := 18) rfl))) rfl, by decide, by decide⟩
theorem ck_X12_becomes : CK yX12_becomes cX12_becomes 4 none 3 := ⟨tb_mem (tb_tab (tt_8 (List.mem_of_getElem? (i := 125) rfl))) rfl, tb_mem (tb_tab (tt_1 (List.mem_of_getElem? (i := 18) rfl))) rfl, by decide, by decide⟩
theorem ck_X12_bits : CK yX12_bits cX12_bits 3 (some .int) 1 := ⟨tb_mem (tb_tab (tt_9 (List.mem_of_getElem? (i := 15) rfl))) rfl, tb_mem (tb_tab (tt_1 (List.mem_of_getElem? (i := 18) rfl))) rfl, by decide, by decide⟩
theorem ck_X12_bounded : CK yX12_bounded cX12_bounded 4 (some .int) 2 := ⟨tb_mem (tb_tab (tt_7 (List.mem_of_getElem? (i := 164) rfl))) rfl, tb_mem (tb_tab (tt_1 (List.mem_of_getElem? (i := 18) rfl))) rfl, by decide, by decide⟩
theorem ck_X12_byteAt : CK yX12_byteAt cX12_byteAt 2 (some .int) 1 := ⟨tb_mem (tb_tab (tt_7 (List.mem_of_getElem? (i := 114) rfl))) rfl, tb_mem (tb_tab (tt_1 (List.mem_of_getElem? (i := 18) rfl))) rfl, by decide, by decide⟩
theorem ck_X12_canCome : CK yX12_canCome cX12_canCome 2 (some .boolean) 1 := ⟨tb_mem (tb_tab (tt_8 (List.mem_of_getElem? (i := 57) rfl))) rfl, tb_mem (tb_tab (tt_1 (List.mem_of_getElem? (i := 18) rfl))) rfl, by decide, by decide⟩
theorem ck_X12_closes : CK yX12_closes cX12_closes 4 none 1 := ⟨tb_mem (tb_tab (tt_9 (List.mem_of_getElem? (i := 0) rfl))) rfl, tb_mem (tb_tab (tt_1 (List.mem_of_getElem? (i := 18) rfl))) rfl, by decide, by decide⟩
theorem ck_X12_comes : CK yX12_comes cX12_comes 5 (some .int) 4 := ⟨tb_mem (tb_tab (tt_8 (List.mem_of_getElem? (i := 61) rfl))) rfl, tb_mem (tb_tab (tt_1 (List.mem_of_getElem? (i := 18) rfl))) rfl, by decide, by decide⟩
theorem ck_X12_comesOut : CK yX12_comesOut cX12_comesOut 3 none 1 := ⟨tb_mem (tb_tab (tt_7 (List.mem_of_getElem? (i := 212) rfl))) rfl, tb_mem (tb_tab (tt_1 (List.mem_of_getElem? (i := 18) rfl))) rfl, by decide, by decide⟩
theorem ck_X12_condition : CK yX12_condition cX12_condition 3 none 0 := ⟨tb_mem (tb_tab (tt_7 (List.mem_of_getElem? (i := 192) rfl))) rfl, tb_mem (tb_tab (tt_1 (List.mem_of_getElem? (i := 18) rfl))) rfl, by decide, by decide⟩
theorem ck_X12_counts : CK yX12_counts cX12_counts 4 (some .boolean) 2 := ⟨tb_mem (tb_tab (tt_8 (List.mem_of_getElem? (i := 105) rfl))) rfl, tb_mem (tb_tab (tt_1 (List.mem_of_getElem? (i := 18) rfl))) rfl, by decide, by decide⟩
theorem ck_X12_cut : CK yX12_cut cX12_cut 8 none 0 := ⟨tb_mem (tb_tab (tt_7 (List.mem_of_getElem? (i := 110) rfl))) rfl, tb_mem (tb_tab (tt_1 (List.mem_of_getElem? (i := 18) rfl))) rfl, by decide, by decide⟩
theorem ck_X12_diesBy : CK yX12_diesBy cX12_diesBy 3 (some .int) 2 := ⟨tb_mem (tb_tab (tt_8 (List.mem_of_getElem? (i := 14) rfl))) rfl, tb_mem (tb_tab (tt_1 (List.mem_of_getElem? (i := 18) rfl))) rfl, by decide, by decide⟩
theorem ck_X12_emit : CK yX12_emit cX12_emit 3 none 2 := ⟨tb_mem (tb_tab (tt_7 (List.mem_of_getElem? (i := 208) rfl))) rfl, tb_mem (tb_tab (tt_1 (List.mem_of_getElem? (i := 18) rfl))) rfl, by decide, by decide⟩
theorem ck_X12_expression : CK yX12_expression cX12_expression 3 none 0 := ⟨tb_mem (tb_tab (tt_7 (List.mem_of_getElem? (i := 200) rfl))) rfl, tb_mem (tb_tab (tt_1 (List.mem_of_getElem? (i := 18) rfl))) rfl, by decide, by decide⟩
theorem ck_X12_fail : CK yX12_fail cX12_fail 2 none 1 := ⟨tb_mem (tb_tab (tt_7 (List.mem_of_getElem? (i := 140) rfl))) rfl, tb_mem (tb_tab (tt_1 (List.mem_of_getElem? (i := 18) rfl))) rfl, by decide, by decide⟩
theorem ck_X12_feeOf : CK yX12_feeOf cX12_feeOf 3 (some .int) 2 := ⟨tb_mem (tb_tab (tt_8 (List.mem_of_getElem? (i := 37) rfl))) rfl, tb_mem (tb_tab (tt_1 (List.mem_of_getElem? (i := 18) rfl))) rfl, by decide, by decide⟩
theorem ck_X12_fillLooks : CK yX12_fillLooks cX12_fillLooks 6 none 1 := ⟨tb_mem (tb_tab (tt_9 (List.mem_of_getElem? (i := 39) rfl))) rfl, tb_mem (tb_tab (tt_1 (List.mem_of_getElem? (i := 18) rfl))) rfl, by decide, by decide⟩
theorem ck_X12_find : CK yX12_find cX12_find 4 (some .int) 2 := ⟨tb_mem (tb_tab (tt_7 (List.mem_of_getElem? (i := 184) rfl))) rfl, tb_mem (tb_tab (tt_1 (List.mem_of_getElem? (i := 18) rfl))) rfl, by decide, by decide⟩
theorem ck_X12_findsRead : CK yX12_findsRead cX12_findsRead 3 none 0 := ⟨tb_mem (tb_tab (tt_7 (List.mem_of_getElem? (i := 216) rfl))) rfl, tb_mem (tb_tab (tt_1 (List.mem_of_getElem? (i := 18) rfl))) rfl, by decide, by decide⟩
theorem ck_X12_floods : CK yX12_floods cX12_floods 4 none 2 := ⟨tb_mem (tb_tab (tt_8 (List.mem_of_getElem? (i := 141) rfl))) rfl, tb_mem (tb_tab (tt_1 (List.mem_of_getElem? (i := 18) rfl))) rfl, by decide, by decide⟩
theorem ck_X12_gains : CK yX12_gains cX12_gains 3 (some .int) 0 := ⟨tb_mem (tb_tab (tt_8 (List.mem_of_getElem? (i := 208) rfl))) rfl, tb_mem (tb_tab (tt_1 (List.mem_of_getElem? (i := 18) rfl))) rfl, by decide, by decide⟩
theorem ck_X12_goesOn : CK yX12_goesOn cX12_goesOn 1 none 0 := ⟨tb_mem (tb_tab (tt_7 (List.mem_of_getElem? (i := 148) rfl))) rfl, tb_mem (tb_tab (tt_1 (List.mem_of_getElem? (i := 18) rfl))) rfl, by decide, by decide⟩
theorem ck_X12_goodOf : CK yX12_goodOf cX12_goodOf 4 (some .int) 3 := ⟨tb_mem (tb_tab (tt_8 (List.mem_of_getElem? (i := 212) rfl))) rfl, tb_mem (tb_tab (tt_1 (List.mem_of_getElem? (i := 18) rfl))) rfl, by decide, by decide⟩
theorem ck_X12_happens : CK yX12_happens cX12_happens 5 none 2 := ⟨tb_mem (tb_tab (tt_8 (List.mem_of_getElem? (i := 121) rfl))) rfl, tb_mem (tb_tab (tt_1 (List.mem_of_getElem? (i := 18) rfl))) rfl, by decide, by decide⟩
theorem ck_X12_hasLetter : CK yX12_hasLetter cX12_hasLetter 2 (some .boolean) 1 := ⟨tb_mem (tb_tab (tt_7 (List.mem_of_getElem? (i := 228) rfl))) rfl, tb_mem (tb_tab (tt_1 (List.mem_of_getElem? (i := 18) rfl))) rfl, by decide, by decide⟩
theorem ck_X12_hasRings : CK yX12_hasRings cX12_hasRings 3 (some .boolean) 1 := ⟨tb_mem (tb_tab (tt_9 (List.mem_of_getElem? (i := 19) rfl))) rfl, tb_mem (tb_tab (tt_1 (List.mem_of_getElem? (i := 18) rfl))) rfl, by decide, by decide⟩
theorem ck_X12_held : CK yX12_held cX12_held 2 (some .int) 2 := ⟨tb_mem (tb_tab (tt_8 (List.mem_of_getElem? (i := 29) rfl))) rfl, tb_mem (tb_tab (tt_1 (List.mem_of_getElem? (i := 18) rfl))) rfl, by decide, by decide⟩
theorem ck_X12_holdsFor : CK yX12_holdsFor cX12_holdsFor 6 (some .boolean) 4 := ⟨tb_mem (tb_tab (tt_8 (List.mem_of_getElem? (i := 129) rfl))) rfl, tb_mem (tb_tab (tt_1 (List.mem_of_getElem? (i := 18) rfl))) rfl, by decide, by decide⟩
theorem ck_X12_holdsRule : CK yX12_holdsRule cX12_holdsRule 4 (some .boolean) 1 := ⟨tb_mem (tb_tab (tt_8 (List.mem_of_getElem? (i := 133) rfl))) rfl, tb_mem (tb_tab (tt_1 (List.mem_of_getElem? (i := 18) rfl))) rfl, by decide, by decide⟩
theorem ck_X12_in : CK yX12_in cX12_in 3 (some .boolean) 3 := ⟨tb_mem (tb_tab (tt_7 (List.mem_of_getElem? (i := 231) rfl))) rfl, tb_mem (tb_tab (tt_1 (List.mem_of_getElem? (i := 18) rfl))) rfl, by decide, by decide⟩
theorem ck_X12_is : CK yX12_is cX12_is 2 (some .boolean) 1 := ⟨tb_mem (tb_tab (tt_7 (List.mem_of_getElem? (i := 132) rfl))) rfl, tb_mem (tb_tab (tt_1 (List.mem_of_getElem? (i := 18) rfl))) rfl, by decide, by decide⟩
theorem ck_X12_isBarred : CK yX12_isBarred cX12_isBarred 4 (some .boolean) 2 := ⟨tb_mem (tb_tab (tt_8 (List.mem_of_getElem? (i := 49) rfl))) rfl, tb_mem (tb_tab (tt_1 (List.mem_of_getElem? (i := 18) rfl))) rfl, by decide, by decide⟩
theorem ck_X12_isClerkBarred : CK yX12_isClerkBarred cX12_isClerkBarred 3 (some .boolean) 2 := ⟨tb_mem (tb_tab (tt_8 (List.mem_of_getElem? (i := 157) rfl))) rfl, tb_mem (tb_tab (tt_1 (List.mem_of_getElem? (i := 18) rfl))) rfl, by decide, by decide⟩
theorem ck_X12_isDigit : CK yX12_isDigit cX12_isDigit 1 (some .boolean) 1 := ⟨tb_mem (tb_tab (tt_7 (List.mem_of_getElem? (i := 124) rfl))) rfl, tb_mem (tb_tab (tt_1 (List.mem_of_getElem? (i := 18) rfl))) rfl, by decide, by decide⟩
theorem ck_X12_isDue : CK yX12_isDue cX12_isDue 3 (some .boolean) 2 := ⟨tb_mem (tb_tab (tt_8 (List.mem_of_getElem? (i := 153) rfl))) rfl, tb_mem (tb_tab (tt_1 (List.mem_of_getElem? (i := 18) rfl))) rfl, by decide, by decide⟩
theorem ck_X12_isEach : CK yX12_isEach cX12_isEach 1 (some .boolean) 1 := ⟨tb_mem (tb_tab (tt_8 (List.mem_of_getElem? (i := 192) rfl))) rfl, tb_mem (tb_tab (tt_1 (List.mem_of_getElem? (i := 18) rfl))) rfl, by decide, by decide⟩
theorem ck_X12_isKnown : CK yX12_isKnown cX12_isKnown 2 (some .boolean) 1 := ⟨tb_mem (tb_tab (tt_8 (List.mem_of_getElem? (i := 97) rfl))) rfl, tb_mem (tb_tab (tt_1 (List.mem_of_getElem? (i := 18) rfl))) rfl, by decide, by decide⟩
theorem ck_X12_isLetter : CK yX12_isLetter cX12_isLetter 1 (some .boolean) 1 := ⟨tb_mem (tb_tab (tt_7 (List.mem_of_getElem? (i := 121) rfl))) rfl, tb_mem (tb_tab (tt_1 (List.mem_of_getElem? (i := 18) rfl))) rfl, by decide, by decide⟩
theorem ck_X12_isPerson : CK yX12_isPerson cX12_isPerson 2 (some .boolean) 1 := ⟨tb_mem (tb_tab (tt_8 (List.mem_of_getElem? (i := 7) rfl))) rfl, tb_mem (tb_tab (tt_1 (List.mem_of_getElem? (i := 18) rfl))) rfl, by decide, by decide⟩
theorem ck_X12_isTrue : CK yX12_isTrue cX12_isTrue 6 (some .boolean) 1 := ⟨tb_mem (tb_tab (tt_8 (List.mem_of_getElem? (i := 137) rfl))) rfl, tb_mem (tb_tab (tt_1 (List.mem_of_getElem? (i := 18) rfl))) rfl, by decide, by decide⟩
theorem ck_X12_isWatched : CK yX12_isWatched cX12_isWatched 3 (some .boolean) 1 := ⟨tb_mem (tb_tab (tt_8 (List.mem_of_getElem? (i := 200) rfl))) rfl, tb_mem (tb_tab (tt_1 (List.mem_of_getElem? (i := 18) rfl))) rfl, by decide, by decide⟩
theorem ck_X12_isYear : CK yX12_isYear cX12_isYear 1 (some .boolean) 1 := ⟨tb_mem (tb_tab (tt_8 (List.mem_of_getElem? (i := 10) rfl))) rfl, tb_mem (tb_tab (tt_1 (List.mem_of_getElem? (i := 18) rfl))) rfl, by decide, by decide⟩
theorem ck_X12_keepsYearly : CK yX12_keepsYearly cX12_keepsYearly 2 none 0 := ⟨tb_mem (tb_tab (tt_8 (List.mem_of_getElem? (i := 181) rfl))) rfl, tb_mem (tb_tab (tt_1 (List.mem_of_getElem? (i := 18) rfl))) rfl, by decide, by decide⟩
theorem ck_X12_known : CK yX12_known cX12_known 4 (some .int) 1 := ⟨tb_mem (tb_tab (tt_7 (List.mem_of_getElem? (i := 180) rfl))) rfl, tb_mem (tb_tab (tt_1 (List.mem_of_getElem? (i := 18) rfl))) rfl, by decide, by decide⟩
theorem ck_X12_literal : CK yX12_literal cX12_literal 6 none 1 := ⟨tb_mem (tb_tab (tt_7 (List.mem_of_getElem? (i := 196) rfl))) rfl, tb_mem (tb_tab (tt_1 (List.mem_of_getElem? (i := 18) rfl))) rfl, by decide, by decide⟩
theorem ck_X12_livesBy : CK yX12_livesBy cX12_livesBy 5 none 2 := ⟨tb_mem (tb_tab (tt_9 (List.mem_of_getElem? (i := 70) rfl))) rfl, tb_mem (tb_tab (tt_1 (List.mem_of_getElem? (i := 18) rfl))) rfl, by decide, by decide⟩
theorem ck_X12_lookFrom : CK yX12_lookFrom cX12_lookFrom 7 (some .int) 3 := ⟨tb_mem (tb_tab (tt_9 (List.mem_of_getElem? (i := 62) rfl))) rfl, tb_mem (tb_tab (tt_1 (List.mem_of_getElem? (i := 18) rfl))) rfl, by decide, by decide⟩
theorem ck_X12_looksNow : CK yX12_looksNow cX12_looksNow 4 none 1 := ⟨tb_mem (tb_tab (tt_8 (List.mem_of_getElem? (i := 149) rfl))) rfl, tb_mem (tb_tab (tt_1 (List.mem_of_getElem? (i := 18) rfl))) rfl, by decide, by decide⟩
theorem ck_X12_lot : CK yX12_lot cX12_lot 3 (some .int) 3 := ⟨tb_mem (tb_tab (tt_9 (List.mem_of_getElem? (i := 73) rfl))) rfl, tb_mem (tb_tab (tt_1 (List.mem_of_getElem? (i := 18) rfl))) rfl, by decide, by decide⟩
theorem ck_X12_mayBeOpened : CK yX12_mayBeOpened cX12_mayBeOpened 5 (some .boolean) 4 := ⟨tb_mem (tb_tab (tt_9 (List.mem_of_getElem? (i := 43) rfl))) rfl, tb_mem (tb_tab (tt_1 (List.mem_of_getElem? (i := 18) rfl))) rfl, by decide, by decide⟩
theorem ck_X12_mixed : CK yX12_mixed cX12_mixed 3 (some .int) 2 := ⟨tb_mem (tb_tab (tt_9 (List.mem_of_getElem? (i := 76) rfl))) rfl, tb_mem (tb_tab (tt_1 (List.mem_of_getElem? (i := 18) rfl))) rfl, by decide, by decide⟩
theorem ck_X12_must : CK yX12_must cX12_must 2 none 1 := ⟨tb_mem (tb_tab (tt_7 (List.mem_of_getElem? (i := 156) rfl))) rfl, tb_mem (tb_tab (tt_1 (List.mem_of_getElem? (i := 18) rfl))) rfl, by decide, by decide⟩
theorem ck_X12_named : CK yX12_named cX12_named 3 (some .int) 0 := ⟨tb_mem (tb_tab (tt_7 (List.mem_of_getElem? (i := 152) rfl))) rfl, tb_mem (tb_tab (tt_1 (List.mem_of_getElem? (i := 18) rfl))) rfl, by decide, by decide⟩
theorem ck_X12_needs : CK yX12_needs cX12_needs 8 none 4 := ⟨tb_mem (tb_tab (tt_9 (List.mem_of_getElem? (i := 31) rfl))) rfl, tb_mem (tb_tab (tt_1 (List.mem_of_getElem? (i := 18) rfl))) rfl, by decide, by decide⟩
theorem ck_X12_notes : CK yX12_notes cX12_notes 4 none 3 := ⟨tb_mem (tb_tab (tt_7 (List.mem_of_getElem? (i := 168) rfl))) rfl, tb_mem (tb_tab (tt_1 (List.mem_of_getElem? (i := 18) rfl))) rfl, by decide, by decide⟩
theorem ck_X12_pays : CK yX12_pays cX12_pays 4 none 1 := ⟨tb_mem (tb_tab (tt_8 (List.mem_of_getElem? (i := 145) rfl))) rfl, tb_mem (tb_tab (tt_1 (List.mem_of_getElem? (i := 18) rfl))) rfl, by decide, by decide⟩
theorem ck_X12_put : CK yX12_put cX12_put 3 none 1 := ⟨tb_mem (tb_tab (tt_7 (List.mem_of_getElem? (i := 98) rfl))) rfl, tb_mem (tb_tab (tt_1 (List.mem_of_getElem? (i := 18) rfl))) rfl, by decide, by decide⟩
theorem ck_X12_reader : CK yX12_reader cX12_reader 2 (some .int) 1 := ⟨tb_mem (tb_tab (tt_7 (List.mem_of_getElem? (i := 239) rfl))) rfl, tb_mem (tb_tab (tt_1 (List.mem_of_getElem? (i := 18) rfl))) rfl, by decide, by decide⟩
theorem ck_X12_ringOf : CK yX12_ringOf cX12_ringOf 4 (some .int) 1 := ⟨tb_mem (tb_tab (tt_9 (List.mem_of_getElem? (i := 4) rfl))) rfl, tb_mem (tb_tab (tt_1 (List.mem_of_getElem? (i := 18) rfl))) rfl, by decide, by decide⟩
theorem ck_X12_runs : CK yX12_runs cX12_runs 9 none 6 := ⟨tb_mem (tb_tab (tt_8 (List.mem_of_getElem? (i := 113) rfl))) rfl, tb_mem (tb_tab (tt_1 (List.mem_of_getElem? (i := 18) rfl))) rfl, by decide, by decide⟩
theorem ck_X12_runsAll : CK yX12_runsAll cX12_runsAll 2 none 1 := ⟨tb_mem (tb_tab (tt_8 (List.mem_of_getElem? (i := 173) rfl))) rfl, tb_mem (tb_tab (tt_1 (List.mem_of_getElem? (i := 18) rfl))) rfl, by decide, by decide⟩
theorem ck_X12_says : CK yX12_says cX12_says 6 (some .int) 3 := ⟨tb_mem (tb_tab (tt_8 (List.mem_of_getElem? (i := 22) rfl))) rfl, tb_mem (tb_tab (tt_1 (List.mem_of_getElem? (i := 18) rfl))) rfl, by decide, by decide⟩
theorem ck_X12_sees : CK yX12_sees cX12_sees 5 none 4 := ⟨tb_mem (tb_tab (tt_8 (List.mem_of_getElem? (i := 18) rfl))) rfl, tb_mem (tb_tab (tt_1 (List.mem_of_getElem? (i := 18) rfl))) rfl, by decide, by decide⟩
theorem ck_X12_sign : CK yX12_sign cX12_sign 6 (some .int) 3 := ⟨tb_mem (tb_tab (tt_7 (List.mem_of_getElem? (i := 128) rfl))) rfl, tb_mem (tb_tab (tt_1 (List.mem_of_getElem? (i := 18) rfl))) rfl, by decide, by decide⟩
theorem ck_X12_starts : CK yX12_starts cX12_starts 2 none 0 := ⟨tb_mem (tb_tab (tt_8 (List.mem_of_getElem? (i := 117) rfl))) rfl, tb_mem (tb_tab (tt_1 (List.mem_of_getElem? (i := 18) rfl))) rfl, by decide, by decide⟩
theorem ck_X12_tell : CK yX12_tell cX12_tell 2 none 0 := ⟨tb_mem (tb_tab (tt_7 (List.mem_of_getElem? (i := 136) rfl))) rfl, tb_mem (tb_tab (tt_1 (List.mem_of_getElem? (i := 18) rfl))) rfl, by decide, by decide⟩
theorem ck_X12_tellBar : CK yX12_tellBar cX12_tellBar 3 none 0 := ⟨tb_mem (tb_tab (tt_7 (List.mem_of_getElem? (i := 176) rfl))) rfl, tb_mem (tb_tab (tt_1 (List.mem_of_getElem? (i := 18) rfl))) rfl, by decide, by decide⟩
theorem ck_X12_tellClerk : CK yX12_tellClerk cX12_tellClerk 2 none 0 := ⟨tb_mem (tb_tab (tt_7 (List.mem_of_getElem? (i := 172) rfl))) rfl, tb_mem (tb_tab (tt_1 (List.mem_of_getElem? (i := 18) rfl))) rfl, by decide, by decide⟩
theorem ck_X12_tellLetter : CK yX12_tellLetter cX12_tellLetter 3 none 0 := ⟨tb_mem (tb_tab (tt_7 (List.mem_of_getElem? (i := 188) rfl))) rfl, tb_mem (tb_tab (tt_1 (List.mem_of_getElem? (i := 18) rfl))) rfl, by decide, by decide⟩
theorem ck_X12_tellPerson : CK yX12_tellPerson cX12_tellPerson 3 none 0 := ⟨tb_mem (tb_tab (tt_7 (List.mem_of_getElem? (i := 144) rfl))) rfl, tb_mem (tb_tab (tt_1 (List.mem_of_getElem? (i := 18) rfl))) rfl, by decide, by decide⟩
theorem ck_X12_termOf : CK yX12_termOf cX12_termOf 8 (some .int) 2 := ⟨tb_mem (tb_tab (tt_8 (List.mem_of_getElem? (i := 26) rfl))) rfl, tb_mem (tb_tab (tt_1 (List.mem_of_getElem? (i := 18) rfl))) rfl, by decide, by decide⟩
theorem ck_X12_those : CK yX12_those cX12_those 4 (some .int) 1 := ⟨tb_mem (tb_tab (tt_9 (List.mem_of_getElem? (i := 81) rfl))) rfl, tb_mem (tb_tab (tt_1 (List.mem_of_getElem? (i := 18) rfl))) rfl, by decide, by decide⟩
theorem ck_X12_token : CK yX12_token cX12_token 6 none 4 := ⟨tb_mem (tb_tab (tt_7 (List.mem_of_getElem? (i := 118) rfl))) rfl, tb_mem (tb_tab (tt_1 (List.mem_of_getElem? (i := 18) rfl))) rfl, by decide, by decide⟩
theorem ck_X12_unit : CK yX12_unit cX12_unit 1 none 0 := ⟨tb_mem (tb_tab (tt_7 (List.mem_of_getElem? (i := 204) rfl))) rfl, tb_mem (tb_tab (tt_1 (List.mem_of_getElem? (i := 18) rfl))) rfl, by decide, by decide⟩
theorem ck_X12_waysOf : CK yX12_waysOf cX12_waysOf 7 (some .long) 3 := ⟨tb_mem (tb_tab (tt_9 (List.mem_of_getElem? (i := 57) rfl))) rfl, tb_mem (tb_tab (tt_1 (List.mem_of_getElem? (i := 18) rfl))) rfl, by decide, by decide⟩
theorem ck_X12_weightOf : CK yX12_weightOf cX12_weightOf 6 (some .int) 3 := ⟨tb_mem (tb_tab (tt_8 (List.mem_of_getElem? (i := 101) rfl))) rfl, tb_mem (tb_tab (tt_1 (List.mem_of_getElem? (i := 18) rfl))) rfl, by decide, by decide⟩
theorem ck_X12_writer : CK yX12_writer cX12_writer 2 (some .int) 1 := ⟨tb_mem (tb_tab (tt_7 (List.mem_of_getElem? (i := 235) rfl))) rfl, tb_mem (tb_tab (tt_1 (List.mem_of_getElem? (i := 18) rfl))) rfl, by decide, by decide⟩
theorem cv_X12_amiss : CV yX12_amiss := ⟨tb_mem (tb_tab (tt_7 (List.mem_of_getElem? (i := 159) rfl))) rfl, tb_mem (tb_sel (List.mem_map_of_mem (f := fun q : MethodName × Nat => Cond.selects q.1.cls q.1 q.1) (tp_5 (List.mem_of_getElem? (i := 3) rfl)))) rfl⟩
theorem cv_X12_areSets : CV yX12_areSets := ⟨tb_mem (tb_tab (tt_9 (List.mem_of_getElem? (i := 26) rfl))) rfl, tb_mem (tb_sel (List.mem_map_of_mem (f := fun q : MethodName × Nat => Cond.selects q.1.cls q.1 q.1) (tp_8 (List.mem_of_getElem? (i := 6) rfl)))) rfl⟩
theorem cv_X12_asksOf : CV yX12_asksOf := ⟨tb_mem (tb_tab (tt_8 (List.mem_of_getElem? (i := 231) rfl))) rfl, tb_mem (tb_sel (List.mem_map_of_mem (f := fun q : MethodName × Nat => Cond.selects q.1.cls q.1 q.1) (tp_8 (List.mem_of_getElem? (i := 2) rfl)))) rfl⟩
theorem cv_X12_becomes : CV yX12_becomes := ⟨tb_mem (tb_tab (tt_8 (List.mem_of_getElem? (i := 124) rfl))) rfl, tb_mem (tb_sel (List.mem_map_of_mem (f := fun q : MethodName × Nat => Cond.selects q.1.cls q.1 q.1) (tp_7 (List.mem_of_getElem? (i := 4) rfl)))) rfl⟩
theorem cv_X12_bounded : CV yX12_bounded := ⟨tb_mem (tb_tab (tt_7 (List.mem_of_getElem? (i := 163) rfl))) rfl, tb_mem (tb_sel (List.mem_map_of_mem (f := fun q : MethodName × Nat => Cond.selects q.1.cls q.1 q.1) (tp_5 (List.mem_of_getElem? (i := 4) rfl)))) rfl⟩
theorem cv_X12_byteAt : CV yX12_byteAt := ⟨tb_mem (tb_tab (tt_7 (List.mem_of_getElem? (i := 113) rfl))) rfl, tb_mem (tb_sel (List.mem_map_of_mem (f := fun q : MethodName × Nat => Cond.selects q.1.cls q.1 q.1) (tp_4 (List.mem_of_getElem? (i := 9) rfl)))) rfl⟩
theorem cv_X12_canCome : CV yX12_canCome := ⟨tb_mem (tb_tab (tt_8 (List.mem_of_getElem? (i := 56) rfl))) rfl, tb_mem (tb_sel (List.mem_map_of_mem (f := fun q : MethodName × Nat => Cond.selects q.1.cls q.1 q.1) (tp_6 (List.mem_of_getElem? (i := 12) rfl)))) rfl⟩
theorem cv_X12_closes : CV yX12_closes := ⟨tb_mem (tb_tab (tt_8 (List.mem_of_getElem? (i := 239) rfl))) rfl, tb_mem (tb_sel (List.mem_map_of_mem (f := fun q : MethodName × Nat => Cond.selects q.1.cls q.1 q.1) (tp_8 (List.mem_of_getElem? (i := 3) rfl)))) rfl⟩
theorem cv_X12_comes : CV yX12_comes := ⟨tb_mem (tb_tab (tt_8 (List.mem_of_getElem? (i := 60) rfl))) rfl, tb_mem (tb_sel (List.mem_map_of_mem (f := fun q : MethodName × Nat => Cond.selects q.1.cls q.1 q.1) (tp_6 (List.mem_of_getElem? (i := 13) rfl)))) rfl⟩
theorem cv_X12_comesOut : CV yX12_comesOut := ⟨tb_mem (tb_tab (tt_7 (List.mem_of_getElem? (i := 211) rfl))) rfl, tb_mem (tb_sel (List.mem_map_of_mem (f := fun q : MethodName × Nat => Cond.selects q.1.cls q.1 q.1) (tp_6 (List.mem_of_getElem? (i := 0) rfl)))) rfl⟩
theorem cv_X12_condition : CV yX12_condition := ⟨tb_mem (tb_tab (tt_7 (List.mem_of_getElem? (i := 191) rfl))) rfl, tb_mem (tb_sel (List.mem_map_of_mem (f := fun q : MethodName × Nat => Cond.selects q.1.cls q.1 q.1) (tp_5 (List.mem_of_getElem? (i := 11) rfl)))) rfl⟩
theorem cv_X12_counts : CV yX12_counts := ⟨tb_mem (tb_tab (tt_8 (List.mem_of_getElem? (i := 104) rfl))) rfl, tb_mem (tb_sel (List.mem_map_of_mem (f := fun q : MethodName × Nat => Cond.selects q.1.cls q.1 q.1) (tp_7 (List.mem_of_getElem? (i := 0) rfl)))) rfl⟩
theorem cv_X12_cut : CV yX12_cut := ⟨tb_mem (tb_tab (tt_7 (List.mem_of_getElem? (i := 109) rfl))) rfl, tb_mem (tb_sel (List.mem_map_of_mem (f := fun q : MethodName × Nat => Cond.selects q.1.cls q.1 q.1) (tp_4 (List.mem_of_getElem? (i := 8) rfl)))) rfl⟩
theorem cv_X12_diesBy : CV yX12_diesBy := ⟨tb_mem (tb_tab (tt_8 (List.mem_of_getElem? (i := 13) rfl))) rfl, tb_mem (tb_sel (List.mem_map_of_mem (f := fun q : MethodName × Nat => Cond.selects q.1.cls q.1 q.1) (tp_6 (List.mem_of_getElem? (i := 6) rfl)))) rfl⟩
theorem cv_X12_emit : CV yX12_emit := ⟨tb_mem (tb_tab (tt_7 (List.mem_of_getElem? (i := 207) rfl))) rfl, tb_mem (tb_sel (List.mem_map_of_mem (f := fun q : MethodName × Nat => Cond.selects q.1.cls q.1 q.1) (tp_5 (List.mem_of_getElem? (i := 15) rfl)))) rfl⟩
theorem cv_X12_expression : CV yX12_expression := ⟨tb_mem (tb_tab (tt_7 (List.mem_of_getElem? (i := 199) rfl))) rfl, tb_mem (tb_sel (List.mem_map_of_mem (f := fun q : MethodName × Nat => Cond.selects q.1.cls q.1 q.1) (tp_5 (List.mem_of_getElem? (i := 13) rfl)))) rfl⟩
theorem cv_X12_fail : CV yX12_fail := ⟨tb_mem (tb_tab (tt_7 (List.mem_of_getElem? (i := 139) rfl))) rfl, tb_mem (tb_sel (List.mem_map_of_mem (f := fun q : MethodName × Nat => Cond.selects q.1.cls q.1 q.1) (tp_4 (List.mem_of_getElem? (i := 14) rfl)))) rfl⟩
theorem cv_X12_feeOf : CV yX12_feeOf := ⟨tb_mem (tb_tab (tt_8 (List.mem_of_getElem? (i := 36) rfl))) rfl, tb_mem (tb_sel (List.mem_map_of_mem (f := fun q : MethodName × Nat => Cond.selects q.1.cls q.1 q.1) (tp_6 (List.mem_of_getElem? (i := 10) rfl)))) rfl⟩
theorem cv_X12_fillLooks : CV yX12_fillLooks := ⟨tb_mem (tb_tab (tt_9 (List.mem_of_getElem? (i := 38) rfl))) rfl, tb_mem (tb_sel (List.mem_map_of_mem (f := fun q : MethodName × Nat => Cond.selects q.1.cls q.1 q.1) (tp_8 (List.mem_of_getElem? (i := 8) rfl)))) rfl⟩
theorem cv_X12_find : CV yX12_find := ⟨tb_mem (tb_tab (tt_7 (List.mem_of_getElem? (i := 183) rfl))) rfl, tb_mem (tb_sel (List.mem_map_of_mem (f := fun q : MethodName × Nat => Cond.selects q.1.cls q.1 q.1) (tp_5 (List.mem_of_getElem? (i := 9) rfl)))) rfl⟩
theorem cv_X12_findsRead : CV yX12_findsRead := ⟨tb_mem (tb_tab (tt_7 (List.mem_of_getElem? (i := 215) rfl))) rfl, tb_mem (tb_sel (List.mem_map_of_mem (f := fun q : MethodName × Nat => Cond.selects q.1.cls q.1 q.1) (tp_6 (List.mem_of_getElem? (i := 1) rfl)))) rfl⟩
theorem cv_X12_floods : CV yX12_floods := ⟨tb_mem (tb_tab (tt_8 (List.mem_of_getElem? (i := 140) rfl))) rfl, tb_mem (tb_sel (List.mem_map_of_mem (f := fun q : MethodName × Nat => Cond.selects q.1.cls q.1 q.1) (tp_7 (List.mem_of_getElem? (i := 8) rfl)))) rfl⟩
theorem cv_X12_gains : CV yX12_gains := ⟨tb_mem (tb_tab (tt_8 (List.mem_of_getElem? (i := 207) rfl))) rfl, tb_mem (tb_sel (List.mem_map_of_mem (f := fun q : MethodName × Nat => Cond.selects q.1.cls q.1 q.1) (tp_8 (List.mem_of_getElem? (i := 0) rfl)))) rfl⟩
theorem cv_X12_goesOn : CV yX12_goesOn := ⟨tb_mem (tb_tab (tt_7 (List.mem_of_getElem? (i := 147) rfl))) rfl, tb_mem (tb_sel (List.mem_map_of_mem (f := fun q : MethodName × Nat => Cond.selects q.1.cls q.1 q.1) (tp_5 (List.mem_of_getElem? (i := 0) rfl)))) rfl⟩
theorem cv_X12_goodOf : CV yX12_goodOf := ⟨tb_mem (tb_tab (tt_8 (List.mem_of_getElem? (i := 211) rfl))) rfl, tb_mem (tb_sel (List.mem_map_of_mem (f := fun q : MethodName × Nat => Cond.selects q.1.cls q.1 q.1) (tp_8 (List.mem_of_getElem? (i := 1) rfl)))) rfl⟩
theorem cv_X12_happens : CV yX12_happens := ⟨tb_mem (tb_tab (tt_8 (List.mem_of_getElem? (i := 120) rfl))) rfl, tb_mem (tb_sel (List.mem_map_of_mem (f := fun q : MethodName × Nat => Cond.selects q.1.cls q.1 q.1) (tp_7 (List.mem_of_getElem? (i := 3) rfl)))) rfl⟩
theorem cv_X12_hasLetter : CV yX12_hasLetter := ⟨tb_mem (tb_tab (tt_7 (List.mem_of_getElem? (i := 227) rfl))) rfl, tb_mem (tb_sel (List.mem_map_of_mem (f := fun q : MethodName × Nat => Cond.selects q.1.cls q.1 q.1) (tp_6 (List.mem_of_getElem? (i := 2) rfl)))) rfl⟩
theorem cv_X12_hasRings : CV yX12_hasRings := ⟨tb_mem (tb_tab (tt_9 (List.mem_of_getElem? (i := 18) rfl))) rfl, tb_mem (tb_sel (List.mem_map_of_mem (f := fun q : MethodName × Nat => Cond.selects q.1.cls q.1 q.1) (tp_8 (List.mem_of_getElem? (i := 5) rfl)))) rfl⟩
theorem cv_X12_holdsFor : CV yX12_holdsFor := ⟨tb_mem (tb_tab (tt_8 (List.mem_of_getElem? (i := 128) rfl))) rfl, tb_mem (tb_sel (List.mem_map_of_mem (f := fun q : MethodName × Nat => Cond.selects q.1.cls q.1 q.1) (tp_7 (List.mem_of_getElem? (i := 5) rfl)))) rfl⟩
theorem cv_X12_holdsRule : CV yX12_holdsRule := ⟨tb_mem (tb_tab (tt_8 (List.mem_of_getElem? (i := 132) rfl))) rfl, tb_mem (tb_sel (List.mem_map_of_mem (f := fun q : MethodName × Nat => Cond.selects q.1.cls q.1 q.1) (tp_7 (List.mem_of_getElem? (i := 6) rfl)))) rfl⟩
theorem cv_X12_is : CV yX12_is := ⟨tb_mem (tb_tab (tt_7 (List.mem_of_getElem? (i := 131) rfl))) rfl, tb_mem (tb_sel (List.mem_map_of_mem (f := fun q : MethodName × Nat => Cond.selects q.1.cls q.1 q.1) (tp_4 (List.mem_of_getElem? (i := 12) rfl)))) rfl⟩
theorem cv_X12_isBarred : CV yX12_isBarred := ⟨tb_mem (tb_tab (tt_8 (List.mem_of_getElem? (i := 48) rfl))) rfl, tb_mem (tb_sel (List.mem_map_of_mem (f := fun q : MethodName × Nat => Cond.selects q.1.cls q.1 q.1) (tp_6 (List.mem_of_getElem? (i := 11) rfl)))) rfl⟩
theorem cv_X12_isClerkBarred : CV yX12_isClerkBarred := ⟨tb_mem (tb_tab (tt_8 (List.mem_of_getElem? (i := 156) rfl))) rfl, tb_mem (tb_sel (List.mem_map_of_mem (f := fun q : MethodName × Nat => Cond.selects q.1.cls q.1 q.1) (tp_7 (List.mem_of_getElem? (i := 12) rfl)))) rfl⟩
theorem cv_X12_isDue : CV yX12_isDue := ⟨tb_mem (tb_tab (tt_8 (List.mem_of_getElem? (i := 152) rfl))) rfl, tb_mem (tb_sel (List.mem_map_of_mem (f := fun q : MethodName × Nat => Cond.selects q.1.cls q.1 q.1) (tp_7 (List.mem_of_getElem? (i := 11) rfl)))) rfl⟩
theorem cv_X12_isKnown : CV yX12_isKnown := ⟨tb_mem (tb_tab (tt_8 (List.mem_of_getElem? (i := 96) rfl))) rfl, tb_mem (tb_sel (List.mem_map_of_mem (f := fun q : MethodName × Nat => Cond.selects q.1.cls q.1 q.1) (tp_6 (List.mem_of_getElem? (i := 14) rfl)))) rfl⟩
theorem cv_X12_isPerson : CV yX12_isPerson := ⟨tb_mem (tb_tab (tt_8 (List.mem_of_getElem? (i := 6) rfl))) rfl, tb_mem (tb_sel (List.mem_map_of_mem (f := fun q : MethodName × Nat => Cond.selects q.1.cls q.1 q.1) (tp_6 (List.mem_of_getElem? (i := 5) rfl)))) rfl⟩
theorem cv_X12_isTrue : CV yX12_isTrue := ⟨tb_mem (tb_tab (tt_8 (List.mem_of_getElem? (i := 136) rfl))) rfl, tb_mem (tb_sel (List.mem_map_of_mem (f := fun q : MethodName × Nat => Cond.selects q.1.cls q.1 q.1) (tp_7 (List.mem_of_getElem? (i := 7) rfl)))) rfl⟩
theorem cv_X12_isWatched : CV yX12_isWatched := ⟨tb_mem (tb_tab (tt_8 (List.mem_of_getElem? (i := 199) rfl))) rfl, tb_mem (tb_sel (List.mem_map_of_mem (f := fun q : MethodName × Nat => Cond.selects q.1.cls q.1 q.1) (tp_7 (List.mem_of_getElem? (i := 15) rfl)))) rfl⟩
theorem cv_X12_keepsYearly : CV yX12_keepsYearly := ⟨tb_mem (tb_tab (tt_8 (List.mem_of_getElem? (i := 180) rfl))) rfl, tb_mem (tb_sel (List.mem_map_of_mem (f := fun q : MethodName × Nat => Cond.selects q.1.cls q.1 q.1) (tp_7 (List.mem_of_getElem? (i := 14) rfl)))) rfl⟩
theorem cv_X12_known : CV yX12_known := ⟨tb_mem (tb_tab (tt_7 (List.mem_of_getElem? (i := 179) rfl))) rfl, tb_mem (tb_sel (List.mem_map_of_mem (f := fun q : MethodName × Nat => Cond.selects q.1.cls q.1 q.1) (tp_5 (List.mem_of_getElem? (i := 8) rfl)))) rfl⟩
theorem cv_X12_literal : CV yX12_literal := ⟨tb_mem (tb_tab (tt_7 (List.mem_of_getElem? (i := 195) rfl))) rfl, tb_mem (tb_sel (List.mem_map_of_mem (f := fun q : MethodName × Nat => Cond.selects q.1.cls q.1 q.1) (tp_5 (List.mem_of_getElem? (i := 12) rfl)))) rfl⟩
theorem cv_X12_livesBy : CV yX12_livesBy := ⟨tb_mem (tb_tab (tt_9 (List.mem_of_getElem? (i := 69) rfl))) rfl, tb_mem (tb_sel (List.mem_map_of_mem (f := fun q : MethodName × Nat => Cond.selects q.1.cls q.1 q.1) (tp_8 (List.mem_of_getElem? (i := 12) rfl)))) rfl⟩
theorem cv_X12_lookFrom : CV yX12_lookFrom := ⟨tb_mem (tb_tab (tt_9 (List.mem_of_getElem? (i := 61) rfl))) rfl, tb_mem (tb_sel (List.mem_map_of_mem (f := fun q : MethodName × Nat => Cond.selects q.1.cls q.1 q.1) (tp_8 (List.mem_of_getElem? (i := 11) rfl)))) rfl⟩
theorem cv_X12_looksNow : CV yX12_looksNow := ⟨tb_mem (tb_tab (tt_8 (List.mem_of_getElem? (i := 148) rfl))) rfl, tb_mem (tb_sel (List.mem_map_of_mem (f := fun q : MethodName × Nat => Cond.selects q.1.cls q.1 q.1) (tp_7 (List.mem_of_getElem? (i := 10) rfl)))) rfl⟩
theorem cv_X12_mayBeOpened : CV yX12_mayBeOpened := ⟨tb_mem (tb_tab (tt_9 (List.mem_of_getElem? (i := 42) rfl))) rfl, tb_mem (tb_sel (List.mem_map_of_mem (f := fun q : MethodName × Nat => Cond.selects q.1.cls q.1 q.1) (tp_8 (List.mem_of_getElem? (i := 9) rfl)))) rfl⟩
theorem cv_X12_must : CV yX12_must := ⟨tb_mem (tb_tab (tt_7 (List.mem_of_getElem? (i := 155) rfl))) rfl, tb_mem (tb_sel (List.mem_map_of_mem (f := fun q : MethodName × Nat => Cond.selects q.1.cls q.1 q.1) (tp_5 (List.mem_of_getElem? (i := 2) rfl)))) rfl⟩
theorem cv_X12_named : CV yX12_named := ⟨tb_mem (tb_tab (tt_7 (List.mem_of_getElem? (i := 151) rfl))) rfl, tb_mem (tb_sel (List.mem_map_of_mem (f := fun q : MethodName × Nat => Cond.selects q.1.cls q.1 q.1) (tp_5 (List.mem_of_getElem? (i := 1) rfl)))) rfl⟩
theorem cv_X12_needs : CV yX12_needs := ⟨tb_mem (tb_tab (tt_9 (List.mem_of_getElem? (i := 30) rfl))) rfl, tb_mem (tb_sel (List.mem_map_of_mem (f := fun q : MethodName × Nat => Cond.selects q.1.cls q.1 q.1) (tp_8 (List.mem_of_getElem? (i := 7) rfl)))) rfl⟩
theorem cv_X12_notes : CV yX12_notes := ⟨tb_mem (tb_tab (tt_7 (List.mem_of_getElem? (i := 167) rfl))) rfl, tb_mem (tb_sel (List.mem_map_of_mem (f := fun q : MethodName × Nat => Cond.selects q.1.cls q.1 q.1) (tp_5 (List.mem_of_getElem? (i := 5) rfl)))) rfl⟩
theorem cv_X12_pays : CV yX12_pays := ⟨tb_mem (tb_tab (tt_8 (List.mem_of_getElem? (i := 144) rfl))) rfl, tb_mem (tb_sel (List.mem_map_of_mem (f := fun q : MethodName × Nat => Cond.selects q.1.cls q.1 q.1) (tp_7 (List.mem_of_getElem? (i := 9) rfl)))) rfl⟩
theorem cv_X12_put : CV yX12_put := ⟨tb_mem (tb_tab (tt_7 (List.mem_of_getElem? (i := 97) rfl))) rfl, tb_mem (tb_sel (List.mem_map_of_mem (f := fun q : MethodName × Nat => Cond.selects q.1.cls q.1 q.1) (tp_4 (List.mem_of_getElem? (i := 7) rfl)))) rfl⟩
theorem cv_X12_reader : CV yX12_reader := ⟨tb_mem (tb_tab (tt_7 (List.mem_of_getElem? (i := 238) rfl))) rfl, tb_mem (tb_sel (List.mem_map_of_mem (f := fun q : MethodName × Nat => Cond.selects q.1.cls q.1 q.1) (tp_6 (List.mem_of_getElem? (i := 4) rfl)))) rfl⟩
theorem cv_X12_ringOf : CV yX12_ringOf := ⟨tb_mem (tb_tab (tt_9 (List.mem_of_getElem? (i := 3) rfl))) rfl, tb_mem (tb_sel (List.mem_map_of_mem (f := fun q : MethodName × Nat => Cond.selects q.1.cls q.1 q.1) (tp_8 (List.mem_of_getElem? (i := 4) rfl)))) rfl⟩
theorem cv_X12_runs : CV yX12_runs := ⟨tb_mem (tb_tab (tt_8 (List.mem_of_getElem? (i := 112) rfl))) rfl, tb_mem (tb_sel (List.mem_map_of_mem (f := fun q : MethodName × Nat => Cond.selects q.1.cls q.1 q.1) (tp_7 (List.mem_of_getElem? (i := 1) rfl)))) rfl⟩
theorem cv_X12_runsAll : CV yX12_runsAll := ⟨tb_mem (tb_tab (tt_8 (List.mem_of_getElem? (i := 172) rfl))) rfl, tb_mem (tb_sel (List.mem_map_of_mem (f := fun q : MethodName × Nat => Cond.selects q.1.cls q.1 q.1) (tp_7 (List.mem_of_getElem? (i := 13) rfl)))) rfl⟩
theorem cv_X12_says : CV yX12_says := ⟨tb_mem (tb_tab (tt_8 (List.mem_of_getElem? (i := 21) rfl))) rfl, tb_mem (tb_sel (List.mem_map_of_mem (f := fun q : MethodName × Nat => Cond.selects q.1.cls q.1 q.1) (tp_6 (List.mem_of_getElem? (i := 8) rfl)))) rfl⟩
theorem cv_X12_sees : CV yX12_sees := ⟨tb_mem (tb_tab (tt_8 (List.mem_of_getElem? (i := 17) rfl))) rfl, tb_mem (tb_sel (List.mem_map_of_mem (f := fun q : MethodName × Nat => Cond.selects q.1.cls q.1 q.1) (tp_6 (List.mem_of_getElem? (i := 7) rfl)))) rfl⟩
theorem cv_X12_sign : CV yX12_sign := ⟨tb_mem (tb_tab (tt_7 (List.mem_of_getElem? (i := 127) rfl))) rfl, tb_mem (tb_sel (List.mem_map_of_mem (f := fun q : MethodName × Nat => Cond.selects q.1.cls q.1 q.1) (tp_4 (List.mem_of_getElem? (i := 11) rfl)))) rfl⟩
theorem cv_X12_starts : CV yX12_starts := ⟨tb_mem (tb_tab (tt_8 (List.mem_of_getElem? (i := 116) rfl))) rfl, tb_mem (tb_sel (List.mem_map_of_mem (f := fun q : MethodName × Nat => Cond.selects q.1.cls q.1 q.1) (tp_7 (List.mem_of_getElem? (i := 2) rfl)))) rfl⟩
theorem cv_X12_tell : CV yX12_tell := ⟨tb_mem (tb_tab (tt_7 (List.mem_of_getElem? (i := 135) rfl))) rfl, tb_mem (tb_sel (List.mem_map_of_mem (f := fun q : MethodName × Nat => Cond.selects q.1.cls q.1 q.1) (tp_4 (List.mem_of_getElem? (i := 13) rfl)))) rfl⟩
theorem cv_X12_tellBar : CV yX12_tellBar := ⟨tb_mem (tb_tab (tt_7 (List.mem_of_getElem? (i := 175) rfl))) rfl, tb_mem (tb_sel (List.mem_map_of_mem (f := fun q : MethodName × Nat => Cond.selects q.1.cls q.1 q.1) (tp_5 (List.mem_of_getElem? (i := 7) rfl)))) rfl⟩
theorem cv_X12_tellClerk : CV yX12_tellClerk := ⟨tb_mem (tb_tab (tt_7 (List.mem_of_getElem? (i := 171) rfl))) rfl, tb_mem (tb_sel (List.mem_map_of_mem (f := fun q : MethodName × Nat => Cond.selects q.1.cls q.1 q.1) (tp_5 (List.mem_of_getElem? (i := 6) rfl)))) rfl⟩
theorem cv_X12_tellLetter : CV yX12_tellLetter := ⟨tb_mem (tb_tab (tt_7 (List.mem_of_getElem? (i := 187) rfl))) rfl, tb_mem (tb_sel (List.mem_map_of_mem (f := fun q : MethodName × Nat => Cond.selects q.1.cls q.1 q.1) (tp_5 (List.mem_of_getElem? (i := 10) rfl)))) rfl⟩
theorem cv_X12_tellPerson : CV yX12_tellPerson := ⟨tb_mem (tb_tab (tt_7 (List.mem_of_getElem? (i := 143) rfl))) rfl, tb_mem (tb_sel (List.mem_map_of_mem (f := fun q : MethodName × Nat => Cond.selects q.1.cls q.1 q.1) (tp_4 (List.mem_of_getElem? (i := 15) rfl)))) rfl⟩
theorem cv_X12_termOf : CV yX12_termOf := ⟨tb_mem (tb_tab (tt_8 (List.mem_of_getElem? (i := 25) rfl))) rfl, tb_mem (tb_sel (List.mem_map_of_mem (f := fun q : MethodName × Nat => Cond.selects q.1.cls q.1 q.1) (tp_6 (List.mem_of_getElem? (i := 9) rfl)))) rfl⟩
theorem cv_X12_those : CV yX12_those := ⟨tb_mem (tb_tab (tt_9 (List.mem_of_getElem? (i := 80) rfl))) rfl, tb_mem (tb_sel (List.mem_map_of_mem (f := fun q : MethodName × Nat => Cond.selects q.1.cls q.1 q.1) (tp_8 (List.mem_of_getElem? (i := 13) rfl)))) rfl⟩
theorem cv_X12_token : CV yX12_token := ⟨tb_mem (tb_tab (tt_7 (List.mem_of_getElem? (i := 117) rfl))) rfl, tb_mem (tb_sel (List.mem_map_of_mem (f := fun q : MethodName × Nat => Cond.selects q.1.cls q.1 q.1) (tp_4 (List.mem_of_getElem? (i := 10) rfl)))) rfl⟩
theorem cv_X12_unit : CV yX12_unit := ⟨tb_mem (tb_tab (tt_7 (List.mem_of_getElem? (i := 203) rfl))) rfl, tb_mem (tb_sel (List.mem_map_of_mem (f := fun q : MethodName × Nat => Cond.selects q.1.cls q.1 q.1) (tp_5 (List.mem_of_getElem? (i := 14) rfl)))) rfl⟩
theorem cv_X12_waysOf : CV yX12_waysOf := ⟨tb_mem (tb_tab (tt_9 (List.mem_of_getElem? (i := 56) rfl))) rfl, tb_mem (tb_sel (List.mem_map_of_mem (f := fun q : MethodName × Nat => Cond.selects q.1.cls q.1 q.1) (tp_8 (List.mem_of_getElem? (i := 10) rfl)))) rfl⟩
theorem cv_X12_weightOf : CV yX12_weightOf := ⟨tb_mem (tb_tab (tt_8 (List.mem_of_getElem? (i := 100) rfl))) rfl, tb_mem (tb_sel (List.mem_map_of_mem (f := fun q : MethodName × Nat => Cond.selects q.1.cls q.1 q.1) (tp_6 (List.mem_of_getElem? (i := 15) rfl)))) rfl⟩
theorem cv_X12_writer : CV yX12_writer := ⟨tb_mem (tb_tab (tt_7 (List.mem_of_getElem? (i := 234) rfl))) rfl, tb_mem (tb_sel (List.mem_map_of_mem (f := fun q : MethodName × Nat => Cond.selects q.1.cls q.1 q.1) (tp_6 (List.mem_of_getElem? (i := 3) rfl)))) rfl⟩
theorem sk_X12_appends : Cond.static yX12_appends ∈ TB := tb_mem (tb_tab (tt_6 (List.mem_of_getElem? (i := 51) rfl))) rfl
theorem sk_X12_bits : Cond.static yX12_bits ∈ TB := tb_mem (tb_tab (tt_9 (List.mem_of_getElem? (i := 14) rfl))) rfl
theorem sk_X12_held : Cond.static yX12_held ∈ TB := tb_mem (tb_tab (tt_8 (List.mem_of_getElem? (i := 28) rfl))) rfl
theorem sk_X12_in : Cond.static yX12_in ∈ TB := tb_mem (tb_tab (tt_7 (List.mem_of_getElem? (i := 230) rfl))) rfl
theorem sk_X12_isDigit : Cond.static yX12_isDigit ∈ TB := tb_mem (tb_tab (tt_7 (List.mem_of_getElem? (i := 123) rfl))) rfl
theorem sk_X12_isEach : Cond.static yX12_isEach ∈ TB := tb_mem (tb_tab (tt_8 (List.mem_of_getElem? (i := 191) rfl))) rfl
theorem sk_X12_isLetter : Cond.static yX12_isLetter ∈ TB := tb_mem (tb_tab (tt_7 (List.mem_of_getElem? (i := 120) rfl))) rfl
theorem sk_X12_isYear : Cond.static yX12_isYear ∈ TB := tb_mem (tb_tab (tt_8 (List.mem_of_getElem? (i := 9) rfl))) rfl
theorem sk_X12_lot : Cond.static yX12_lot ∈ TB := tb_mem (tb_tab (tt_9 (List.mem_of_getElem? (i := 72) rfl))) rfl
theorem sk_X12_mixed : Cond.static yX12_mixed ∈ TB := tb_mem (tb_tab (tt_9 (List.mem_of_getElem? (i := 75) rfl))) rfl
theorem fl_X12_101 : FL "AfterOfficeModel" 101 12 41 := ⟨_, _, _, rfl, inX12, by decide, tb_mem (tb_tab (tt_6 (List.mem_of_getElem? (i := 94) rfl))) rfl, rfl⟩
theorem fl_X12_104 : FL "AfterOfficeModel" 104 12 43 := ⟨_, _, _, rfl, inX12, by decide, tb_mem (tb_tab (tt_6 (List.mem_of_getElem? (i := 96) rfl))) rfl, rfl⟩
theorem fl_X12_107 : FL "AfterOfficeModel" 107 12 44 := ⟨_, _, _, rfl, inX12, by decide, tb_mem (tb_tab (tt_6 (List.mem_of_getElem? (i := 97) rfl))) rfl, rfl⟩
theorem fl_X12_110 : FL "AfterOfficeModel" 110 12 45 := ⟨_, _, _, rfl, inX12, by decide, tb_mem (tb_tab (tt_6 (List.mem_of_getElem? (i := 98) rfl))) rfl, rfl⟩
theorem fl_X12_113 : FL "AfterOfficeModel" 113 12 46 := ⟨_, _, _, rfl, inX12, by decide, tb_mem (tb_tab (tt_6 (List.mem_of_getElem? (i := 99) rfl))) rfl, rfl⟩
theorem fl_X12_116 : FL "AfterOfficeModel" 116 12 47 := ⟨_, _, _, rfl, inX12, by decide, tb_mem (tb_tab (tt_6 (List.mem_of_getElem? (i := 100) rfl))) rfl, rfl⟩
theorem fl_X12_119 : FL "AfterOfficeModel" 119 12 48 := ⟨_, _, _, rfl, inX12, by decide, tb_mem (tb_tab (tt_6 (List.mem_of_getElem? (i := 101) rfl))) rfl, rfl⟩
theorem fl_X12_122 : FL "AfterOfficeModel" 122 12 50 := ⟨_, _, _, rfl, inX12, by decide, tb_mem (tb_tab (tt_6 (List.mem_of_getElem? (i := 103) rfl))) rfl, rfl⟩
theorem fl_X12_125 : FL "AfterOfficeModel" 125 12 51 := ⟨_, _, _, rfl, inX12, by decide, tb_mem (tb_tab (tt_6 (List.mem_of_getElem? (i := 104) rfl))) rfl, rfl⟩
theorem fl_X12_128 : FL "AfterOfficeModel" 128 12 52 := ⟨_, _, _, rfl, inX12, by decide, tb_mem (tb_tab (tt_6 (List.mem_of_getElem? (i := 105) rfl))) rfl, rfl⟩
theorem fl_X12_13 : FL "AfterOfficeModel" 13 12 1 := ⟨_, _, _, rfl, inX12, by decide, tb_mem (tb_tab (tt_6 (List.mem_of_getElem? (i := 54) rfl))) rfl, rfl⟩
theorem fl_X12_131 : FL "AfterOfficeModel" 131 12 54 := ⟨_, _, _, rfl, inX12, by decide, tb_mem (tb_tab (tt_6 (List.mem_of_getElem? (i := 107) rfl))) rfl, rfl⟩
theorem fl_X12_134 : FL "AfterOfficeModel" 134 12 55 := ⟨_, _, _, rfl, inX12, by decide, tb_mem (tb_tab (tt_6 (List.mem_of_getElem? (i := 108) rfl))) rfl, rfl⟩
theorem fl_X12_137 : FL "AfterOfficeModel" 137 12 60 := ⟨_, _, _, rfl, inX12, by decide, tb_mem (tb_tab (tt_6 (List.mem_of_getElem? (i := 113) rfl))) rfl, rfl⟩
theorem fl_X12_140 : FL "AfterOfficeModel" 140 12 61 := ⟨_, _, _, rfl, inX12, by decide, tb_mem (tb_tab (tt_6 (List.mem_of_getElem? (i := 114) rfl))) rfl, rfl⟩
theorem fl_X12_143 : FL "AfterOfficeModel" 143 12 62 := ⟨_, _, _, rfl, inX12, by decide, tb_mem (tb_tab (tt_6 (List.mem_of_getElem? (i := 115) rfl))) rfl, rfl⟩
theorem fl_X12_146 : FL "AfterOfficeModel" 146 12 63 := ⟨_, _, _, rfl, inX12, by decide, tb_mem (tb_tab (tt_6 (List.mem_of_getElem? (i := 116) rfl))) rfl, rfl⟩
theorem fl_X12_149 : FL "AfterOfficeModel" 149 12 64 := ⟨_, _, _, rfl, inX12, by decide, tb_mem (tb_tab (tt_6 (List.mem_of_getElem? (i := 117) rfl))) rfl, rfl⟩
theorem fl_X12_152 : FL "AfterOfficeModel" 152 12 65 := ⟨_, _, _, rfl, inX12, by decide, tb_mem (tb_tab (tt_6 (List.mem_of_getElem? (i := 118) rfl))) rfl, rfl⟩
theorem fl_X12_155 : FL "AfterOfficeModel" 155 12 66 := ⟨_, _, _, rfl, inX12, by decide, tb_mem (tb_tab (tt_6 (List.mem_of_getElem? (i := 119) rfl))) rfl, rfl⟩
theorem fl_X12_158 : FL "AfterOfficeModel" 158 12 67 := ⟨_, _, _, rfl, inX12, by decide, tb_mem (tb_tab (tt_6 (List.mem_of_getElem? (i := 120) rfl))) rfl, rfl⟩
theorem fl_X12_161 : FL "AfterOfficeModel" 161 12 68 := ⟨_, _, _, rfl, inX12, by decide, tb_mem (tb_tab (tt_6 (List.mem_of_getElem? (i := 121) rfl))) rfl, rfl⟩
theorem fl_X12_164 : FL "AfterOfficeModel" 164 12 72 := ⟨_, _, _, rfl, inX12, by decide, tb_mem (tb_tab (tt_6 (List.mem_of_getElem? (i := 125) rfl))) rfl, rfl⟩
theorem fl_X12_167 : FL "AfterOfficeModel" 167 12 74 := ⟨_, _, _, rfl, inX12, by decide, tb_mem (tb_tab (tt_6 (List.mem_of_getElem? (i := 127) rfl))) rfl, rfl⟩
theorem fl_X12_17 : FL "AfterOfficeModel" 17 12 3 := ⟨_, _, _, rfl, inX12, by decide, tb_mem (tb_tab (tt_6 (List.mem_of_getElem? (i := 56) rfl))) rfl, rfl⟩
theorem fl_X12_170 : FL "AfterOfficeModel" 170 12 75 := ⟨_, _, _, rfl, inX12, by decide, tb_mem (tb_tab (tt_6 (List.mem_of_getElem? (i := 128) rfl))) rfl, rfl⟩
theorem fl_X12_173 : FL "AfterOfficeModel" 173 12 76 := ⟨_, _, _, rfl, inX12, by decide, tb_mem (tb_tab (tt_6 (List.mem_of_getElem? (i := 129) rfl))) rfl, rfl⟩
theorem fl_X12_176 : FL "AfterOfficeModel" 176 12 77 := ⟨_, _, _, rfl, inX12, by decide, tb_mem (tb_tab (tt_6 (List.mem_of_getElem? (i := 130) rfl))) rfl, rfl⟩
theorem fl_X12_179 : FL "AfterOfficeModel" 179 12 78 := ⟨_, _, _, rfl, inX12, by decide, tb_mem (tb_tab (tt_6 (List.mem_of_getElem? (i := 131) rfl))) rfl, rfl⟩
theorem fl_X12_182 : FL "AfterOfficeModel" 182 12 82 := ⟨_, _, _, rfl, inX12, by decide, tb_mem (tb_tab (tt_6 (List.mem_of_getElem? (i := 135) rfl))) rfl, rfl⟩
theorem fl_X12_185 : FL "AfterOfficeModel" 185 12 83 := ⟨_, _, _, rfl, inX12, by decide, tb_mem (tb_tab (tt_6 (List.mem_of_getElem? (i := 136) rfl))) rfl, rfl⟩
theorem fl_X12_188 : FL "AfterOfficeModel" 188 12 84 := ⟨_, _, _, rfl, inX12, by decide, tb_mem (tb_tab (tt_6 (List.mem_of_getElem? (i := 137) rfl))) rfl, rfl⟩
theorem fl_X12_191 : FL "AfterOfficeModel" 191 12 85 := ⟨_, _, _, rfl, inX12, by decide, tb_mem (tb_tab (tt_6 (List.mem_of_getElem? (i := 138) rfl))) rfl, rfl⟩
theorem fl_X12_194 : FL "AfterOfficeModel" 194 12 86 := ⟨_, _, _, rfl, inX12, by decide, tb_mem (tb_tab (tt_6 (List.mem_of_getElem? (i := 139) rfl))) rfl, rfl⟩
theorem fl_X12_197 : FL "AfterOfficeModel" 197 12 87 := ⟨_, _, _, rfl, inX12, by decide, tb_mem (tb_tab (tt_6 (List.mem_of_getElem? (i := 140) rfl))) rfl, rfl⟩
theorem fl_X12_20 : FL "AfterOfficeModel" 20 12 5 := ⟨_, _, _, rfl, inX12, by decide, tb_mem (tb_tab (tt_6 (List.mem_of_getElem? (i := 58) rfl))) rfl, rfl⟩
theorem fl_X12_200 : FL "AfterOfficeModel" 200 12 88 := ⟨_, _, _, rfl, inX12, by decide, tb_mem (tb_tab (tt_6 (List.mem_of_getElem? (i := 141) rfl))) rfl, rfl⟩
theorem fl_X12_203 : FL "AfterOfficeModel" 203 12 89 := ⟨_, _, _, rfl, inX12, by decide, tb_mem (tb_tab (tt_6 (List.mem_of_getElem? (i := 142) rfl))) rfl, rfl⟩
theorem fl_X12_206 : FL "AfterOfficeModel" 206 12 90 := ⟨_, _, _, rfl, inX12, by decide, tb_mem (tb_tab (tt_6 (List.mem_of_getElem? (i := 143) rfl))) rfl, rfl⟩
theorem fl_X12_209 : FL "AfterOfficeModel" 209 12 91 := ⟨_, _, _, rfl, inX12, by decide, tb_mem (tb_tab (tt_6 (List.mem_of_getElem? (i := 144) rfl))) rfl, rfl⟩
theorem fl_X12_216 : FL "AfterOfficeModel" 216 12 2 := ⟨_, _, _, rfl, inX12, by decide, tb_mem (tb_tab (tt_6 (List.mem_of_getElem? (i := 55) rfl))) rfl, rfl⟩
theorem fl_X12_223 : FL "AfterOfficeModel" 223 12 4 := ⟨_, _, _, rfl, inX12, by decide, tb_mem (tb_tab (tt_6 (List.mem_of_getElem? (i := 57) rfl))) rfl, rfl⟩
theorem fl_X12_232 : FL "AfterOfficeModel" 232 12 10 := ⟨_, _, _, rfl, inX12, by decide, tb_mem (tb_tab (tt_6 (List.mem_of_getElem? (i := 63) rfl))) rfl, rfl⟩
theorem fl_X12_24 : FL "AfterOfficeModel" 24 12 6 := ⟨_, _, _, rfl, inX12, by decide, tb_mem (tb_tab (tt_6 (List.mem_of_getElem? (i := 59) rfl))) rfl, rfl⟩
theorem fl_X12_254 : FL "AfterOfficeModel" 254 12 13 := ⟨_, _, _, rfl, inX12, by decide, tb_mem (tb_tab (tt_6 (List.mem_of_getElem? (i := 66) rfl))) rfl, rfl⟩
theorem fl_X12_257 : FL "AfterOfficeModel" 257 12 11 := ⟨_, _, _, rfl, inX12, by decide, tb_mem (tb_tab (tt_6 (List.mem_of_getElem? (i := 64) rfl))) rfl, rfl⟩
theorem fl_X12_260 : FL "AfterOfficeModel" 260 12 14 := ⟨_, _, _, rfl, inX12, by decide, tb_mem (tb_tab (tt_6 (List.mem_of_getElem? (i := 67) rfl))) rfl, rfl⟩
theorem fl_X12_263 : FL "AfterOfficeModel" 263 12 15 := ⟨_, _, _, rfl, inX12, by decide, tb_mem (tb_tab (tt_6 (List.mem_of_getElem? (i := 68) rfl))) rfl, rfl⟩
theorem fl_X12_266 : FL "AfterOfficeModel" 266 12 16 := ⟨_, _, _, rfl, inX12, by decide, tb_mem (tb_tab (tt_6 (List.mem_of_getElem? (i := 69) rfl))) rfl, rfl⟩
theorem fl_X12_27 : FL "AfterOfficeModel" 27 12 7 := ⟨_, _, _, rfl, inX12, by decide, tb_mem (tb_tab (tt_6 (List.mem_of_getElem? (i := 60) rfl))) rfl, rfl⟩
theorem fl_X12_281 : FL "AfterOfficeModel" 281 12 12 := ⟨_, _, _, rfl, inX12, by decide, tb_mem (tb_tab (tt_6 (List.mem_of_getElem? (i := 65) rfl))) rfl, rfl⟩
theorem fl_X12_284 : FL "AfterOfficeModel" 284 12 18 := ⟨_, _, _, rfl, inX12, by decide, tb_mem (tb_tab (tt_6 (List.mem_of_getElem? (i := 71) rfl))) rfl, rfl⟩
theorem fl_X12_287 : FL "AfterOfficeModel" 287 12 19 := ⟨_, _, _, rfl, inX12, by decide, tb_mem (tb_tab (tt_6 (List.mem_of_getElem? (i := 72) rfl))) rfl, rfl⟩
theorem fl_X12_290 : FL "AfterOfficeModel" 290 12 20 := ⟨_, _, _, rfl, inX12, by decide, tb_mem (tb_tab (tt_6 (List.mem_of_getElem? (i := 73) rfl))) rfl, rfl⟩
theorem fl_X12_293 : FL "AfterOfficeModel" 293 12 42 := ⟨_, _, _, rfl, inX12, by decide, tb_mem (tb_tab (tt_6 (List.mem_of_getElem? (i := 95) rfl))) rfl, rfl⟩
theorem fl_X12_296 : FL "AfterOfficeModel" 296 12 49 := ⟨_, _, _, rfl, inX12, by decide, tb_mem (tb_tab (tt_6 (List.mem_of_getElem? (i := 102) rfl))) rfl, rfl⟩
theorem fl_X12_30 : FL "AfterOfficeModel" 30 12 8 := ⟨_, _, _, rfl, inX12, by decide, tb_mem (tb_tab (tt_6 (List.mem_of_getElem? (i := 61) rfl))) rfl, rfl⟩
theorem fl_X12_305 : FL "AfterOfficeModel" 305 12 59 := ⟨_, _, _, rfl, inX12, by decide, tb_mem (tb_tab (tt_6 (List.mem_of_getElem? (i := 112) rfl))) rfl, rfl⟩
theorem fl_X12_34 : FL "AfterOfficeModel" 34 12 9 := ⟨_, _, _, rfl, inX12, by decide, tb_mem (tb_tab (tt_6 (List.mem_of_getElem? (i := 62) rfl))) rfl, rfl⟩
theorem fl_X12_355 : FL "AfterOfficeModel" 355 12 53 := ⟨_, _, _, rfl, inX12, by decide, tb_mem (tb_tab (tt_6 (List.mem_of_getElem? (i := 106) rfl))) rfl, rfl⟩
theorem fl_X12_367 : FL "AfterOfficeModel" 367 12 56 := ⟨_, _, _, rfl, inX12, by decide, tb_mem (tb_tab (tt_6 (List.mem_of_getElem? (i := 109) rfl))) rfl, rfl⟩
theorem fl_X12_37 : FL "AfterOfficeModel" 37 12 17 := ⟨_, _, _, rfl, inX12, by decide, tb_mem (tb_tab (tt_6 (List.mem_of_getElem? (i := 70) rfl))) rfl, rfl⟩
theorem fl_X12_371 : FL "AfterOfficeModel" 371 12 57 := ⟨_, _, _, rfl, inX12, by decide, tb_mem (tb_tab (tt_6 (List.mem_of_getElem? (i := 110) rfl))) rfl, rfl⟩
theorem fl_X12_374 : FL "AfterOfficeModel" 374 12 58 := ⟨_, _, _, rfl, inX12, by decide, tb_mem (tb_tab (tt_6 (List.mem_of_getElem? (i := 111) rfl))) rfl, rfl⟩
theorem fl_X12_40 : FL "AfterOfficeModel" 40 12 21 := ⟨_, _, _, rfl, inX12, by decide, tb_mem (tb_tab (tt_6 (List.mem_of_getElem? (i := 74) rfl))) rfl, rfl⟩
theorem fl_X12_43 : FL "AfterOfficeModel" 43 12 22 := ⟨_, _, _, rfl, inX12, by decide, tb_mem (tb_tab (tt_6 (List.mem_of_getElem? (i := 75) rfl))) rfl, rfl⟩
theorem fl_X12_441 : FL "AfterOfficeModel" 441 12 69 := ⟨_, _, _, rfl, inX12, by decide, tb_mem (tb_tab (tt_6 (List.mem_of_getElem? (i := 122) rfl))) rfl, rfl⟩
theorem fl_X12_444 : FL "AfterOfficeModel" 444 12 70 := ⟨_, _, _, rfl, inX12, by decide, tb_mem (tb_tab (tt_6 (List.mem_of_getElem? (i := 123) rfl))) rfl, rfl⟩
theorem fl_X12_447 : FL "AfterOfficeModel" 447 12 71 := ⟨_, _, _, rfl, inX12, by decide, tb_mem (tb_tab (tt_6 (List.mem_of_getElem? (i := 124) rfl))) rfl, rfl⟩
theorem fl_X12_450 : FL "AfterOfficeModel" 450 12 73 := ⟨_, _, _, rfl, inX12, by decide, tb_mem (tb_tab (tt_6 (List.mem_of_getElem? (i := 126) rfl))) rfl, rfl⟩
theorem fl_X12_46 : FL "AfterOfficeModel" 46 12 23 := ⟨_, _, _, rfl, inX12, by decide, tb_mem (tb_tab (tt_6 (List.mem_of_getElem? (i := 76) rfl))) rfl, rfl⟩
theorem fl_X12_49 : FL "AfterOfficeModel" 49 12 24 := ⟨_, _, _, rfl, inX12, by decide, tb_mem (tb_tab (tt_6 (List.mem_of_getElem? (i := 77) rfl))) rfl, rfl⟩
theorem fl_X12_519 : FL "AfterOfficeModel" 519 12 79 := ⟨_, _, _, rfl, inX12, by decide, tb_mem (tb_tab (tt_6 (List.mem_of_getElem? (i := 132) rfl))) rfl, rfl⟩
theorem fl_X12_52 : FL "AfterOfficeModel" 52 12 25 := ⟨_, _, _, rfl, inX12, by decide, tb_mem (tb_tab (tt_6 (List.mem_of_getElem? (i := 78) rfl))) rfl, rfl⟩
theorem fl_X12_522 : FL "AfterOfficeModel" 522 12 80 := ⟨_, _, _, rfl, inX12, by decide, tb_mem (tb_tab (tt_6 (List.mem_of_getElem? (i := 133) rfl))) rfl, rfl⟩
theorem fl_X12_525 : FL "AfterOfficeModel" 525 12 81 := ⟨_, _, _, rfl, inX12, by decide, tb_mem (tb_tab (tt_6 (List.mem_of_getElem? (i := 134) rfl))) rfl, rfl⟩
theorem fl_X12_55 : FL "AfterOfficeModel" 55 12 26 := ⟨_, _, _, rfl, inX12, by decide, tb_mem (tb_tab (tt_6 (List.mem_of_getElem? (i := 79) rfl))) rfl, rfl⟩
theorem fl_X12_58 : FL "AfterOfficeModel" 58 12 27 := ⟨_, _, _, rfl, inX12, by decide, tb_mem (tb_tab (tt_6 (List.mem_of_getElem? (i := 80) rfl))) rfl, rfl⟩
theorem fl_X12_61 : FL "AfterOfficeModel" 61 12 28 := ⟨_, _, _, rfl, inX12, by decide, tb_mem (tb_tab (tt_6 (List.mem_of_getElem? (i := 81) rfl))) rfl, rfl⟩
theorem fl_X12_64 : FL "AfterOfficeModel" 64 12 29 := ⟨_, _, _, rfl, inX12, by decide, tb_mem (tb_tab (tt_6 (List.mem_of_getElem? (i := 82) rfl))) rfl, rfl⟩
theorem fl_X12_67 : FL "AfterOfficeModel" 67 12 30 := ⟨_, _, _, rfl, inX12, by decide, tb_mem (tb_tab (tt_6 (List.mem_of_getElem? (i := 83) rfl))) rfl, rfl⟩
theorem fl_X12_70 : FL "AfterOfficeModel" 70 12 31 := ⟨_, _, _, rfl, inX12, by decide, tb_mem (tb_tab (tt_6 (List.mem_of_getElem? (i := 84) rfl))) rfl, rfl⟩
theorem fl_X12_73 : FL "AfterOfficeModel" 73 12 32 := ⟨_, _, _, rfl, inX12, by decide, tb_mem (tb_tab (tt_6 (List.mem_of_getElem? (i := 85) rfl))) rfl, rfl⟩
theorem fl_X12_76 : FL "AfterOfficeModel" 76 12 33 := ⟨_, _, _, rfl, inX12, by decide, tb_mem (tb_tab (tt_6 (List.mem_of_getElem? (i := 86) rfl))) rfl, rfl⟩
theorem fl_X12_79 : FL "AfterOfficeModel" 79 12 34 := ⟨_, _, _, rfl, inX12, by decide, tb_mem (tb_tab (tt_6 (List.mem_of_getElem? (i := 87) rfl))) rfl, rfl⟩
theorem fl_X12_82 : FL "AfterOfficeModel" 82 12 35 := ⟨_, _, _, rfl, inX12, by decide, tb_mem (tb_tab (tt_6 (List.mem_of_getElem? (i := 88) rfl))) rfl, rfl⟩
theorem fl_X12_85 : FL "AfterOfficeModel" 85 12 36 := ⟨_, _, _, rfl, inX12, by decide, tb_mem (tb_tab (tt_6 (List.mem_of_getElem? (i := 89) rfl))) rfl, rfl⟩
theorem fl_X12_88 : FL "AfterOfficeModel" 88 12 37 := ⟨_, _, _, rfl, inX12, by decide, tb_mem (tb_tab (tt_6 (List.mem_of_getElem? (i := 90) rfl))) rfl, rfl⟩
theorem fl_X12_91 : FL "AfterOfficeModel" 91 12 38 := ⟨_, _, _, rfl, inX12, by decide, tb_mem (tb_tab (tt_6 (List.mem_of_getElem? (i := 91) rfl))) rfl, rfl⟩
theorem fl_X12_94 : FL "AfterOfficeModel" 94 12 39 := ⟨_, _, _, rfl, inX12, by decide, tb_mem (tb_tab (tt_6 (List.mem_of_getElem? (i := 92) rfl))) rfl, rfl⟩
theorem fl_X12_98 : FL "AfterOfficeModel" 98 12 40 := ⟨_, _, _, rfl, inX12, by decide, tb_mem (tb_tab (tt_6 (List.mem_of_getElem? (i := 93) rfl))) rfl, rfl⟩
theorem fp_X12_216 : FP "AfterOfficeModel" 216 12 2 .int := ⟨_, _, _, tyX12, rfl, inX12, by decide, tb_mem (tb_tab (tt_6 (List.mem_of_getElem? (i := 55) rfl))) rfl, rfl, tyX12_ok, nmX12, rfl, by decide⟩
theorem fp_X12_223 : FP "AfterOfficeModel" 223 12 4 .int := ⟨_, _, _, tyX12, rfl, inX12, by decide, tb_mem (tb_tab (tt_6 (List.mem_of_getElem? (i := 57) rfl))) rfl, rfl, tyX12_ok, nmX12, rfl, by decide⟩
theorem fp_X12_232 : FP "AfterOfficeModel" 232 12 10 .int := ⟨_, _, _, tyX12, rfl, inX12, by decide, tb_mem (tb_tab (tt_6 (List.mem_of_getElem? (i := 63) rfl))) rfl, rfl, tyX12_ok, nmX12, rfl, by decide⟩
theorem fp_X12_254 : FP "AfterOfficeModel" 254 12 13 .int := ⟨_, _, _, tyX12, rfl, inX12, by decide, tb_mem (tb_tab (tt_6 (List.mem_of_getElem? (i := 66) rfl))) rfl, rfl, tyX12_ok, nmX12, rfl, by decide⟩
theorem fp_X12_257 : FP "AfterOfficeModel" 257 12 11 .int := ⟨_, _, _, tyX12, rfl, inX12, by decide, tb_mem (tb_tab (tt_6 (List.mem_of_getElem? (i := 64) rfl))) rfl, rfl, tyX12_ok, nmX12, rfl, by decide⟩
theorem fp_X12_260 : FP "AfterOfficeModel" 260 12 14 .int := ⟨_, _, _, tyX12, rfl, inX12, by decide, tb_mem (tb_tab (tt_6 (List.mem_of_getElem? (i := 67) rfl))) rfl, rfl, tyX12_ok, nmX12, rfl, by decide⟩
theorem fp_X12_263 : FP "AfterOfficeModel" 263 12 15 .int := ⟨_, _, _, tyX12, rfl, inX12, by decide, tb_mem (tb_tab (tt_6 (List.mem_of_getElem? (i := 68) rfl))) rfl, rfl, tyX12_ok, nmX12, rfl, by decide⟩
theorem fp_X12_266 : FP "AfterOfficeModel" 266 12 16 .int := ⟨_, _, _, tyX12, rfl, inX12, by decide, tb_mem (tb_tab (tt_6 (List.mem_of_getElem? (i := 69) rfl))) rfl, rfl, tyX12_ok, nmX12, rfl, by decide⟩
theorem fp_X12_281 : FP "AfterOfficeModel" 281 12 12 .int := ⟨_, _, _, tyX12, rfl, inX12, by decide, tb_mem (tb_tab (tt_6 (List.mem_of_getElem? (i := 65) rfl))) rfl, rfl, tyX12_ok, nmX12, rfl, by decide⟩
theorem fp_X12_284 : FP "AfterOfficeModel" 284 12 18 .int := ⟨_, _, _, tyX12, rfl, inX12, by decide, tb_mem (tb_tab (tt_6 (List.mem_of_getElem? (i := 71) rfl))) rfl, rfl, tyX12_ok, nmX12, rfl, by decide⟩
theorem fp_X12_287 : FP "AfterOfficeModel" 287 12 19 .int := ⟨_, _, _, tyX12, rfl, inX12, by decide, tb_mem (tb_tab (tt_6 (List.mem_of_getElem? (i := 72) rfl))) rfl, rfl, tyX12_ok, nmX12, rfl, by decide⟩
theorem fp_X12_290 : FP "AfterOfficeModel" 290 12 20 .int := ⟨_, _, _, tyX12, rfl, inX12, by decide, tb_mem (tb_tab (tt_6 (List.mem_of_getElem? (i := 73) rfl))) rfl, rfl, tyX12_ok, nmX12, rfl, by decide⟩
theorem fp_X12_293 : FP "AfterOfficeModel" 293 12 42 .int := ⟨_, _, _, tyX12, rfl, inX12, by decide, tb_mem (tb_tab (tt_6 (List.mem_of_getElem? (i := 95) rfl))) rfl, rfl, tyX12_ok, nmX12, rfl, by decide⟩
theorem fp_X12_296 : FP "AfterOfficeModel" 296 12 49 .int := ⟨_, _, _, tyX12, rfl, inX12, by decide, tb_mem (tb_tab (tt_6 (List.mem_of_getElem? (i := 102) rfl))) rfl, rfl, tyX12_ok, nmX12, rfl, by decide⟩
theorem fp_X12_305 : FP "AfterOfficeModel" 305 12 59 .int := ⟨_, _, _, tyX12, rfl, inX12, by decide, tb_mem (tb_tab (tt_6 (List.mem_of_getElem? (i := 112) rfl))) rfl, rfl, tyX12_ok, nmX12, rfl, by decide⟩
theorem fp_X12_355 : FP "AfterOfficeModel" 355 12 53 .int := ⟨_, _, _, tyX12, rfl, inX12, by decide, tb_mem (tb_tab (tt_6 (List.mem_of_getElem? (i := 106) rfl))) rfl, rfl, tyX12_ok, nmX12, rfl, by decide⟩
theorem fp_X12_367 : FP "AfterOfficeModel" 367 12 56 .boolean := ⟨_, _, _, tyX12, rfl, inX12, by decide, tb_mem (tb_tab (tt_6 (List.mem_of_getElem? (i := 109) rfl))) rfl, rfl, tyX12_ok, nmX12, rfl, by decide⟩
theorem fp_X12_37 : FP "AfterOfficeModel" 37 12 17 .int := ⟨_, _, _, tyX12, rfl, inX12, by decide, tb_mem (tb_tab (tt_6 (List.mem_of_getElem? (i := 70) rfl))) rfl, rfl, tyX12_ok, nmX12, rfl, by decide⟩
theorem fp_X12_371 : FP "AfterOfficeModel" 371 12 57 .int := ⟨_, _, _, tyX12, rfl, inX12, by decide, tb_mem (tb_tab (tt_6 (List.mem_of_getElem? (i := 110) rfl))) rfl, rfl, tyX12_ok, nmX12, rfl, by decide⟩
theorem fp_X12_374 : FP "AfterOfficeModel" 374 12 58 .int := ⟨_, _, _, tyX12, rfl, inX12, by decide, tb_mem (tb_tab (tt_6 (List.mem_of_getElem? (i := 111) rfl))) rfl, rfl, tyX12_ok, nmX12, rfl, by decide⟩
theorem fp_X12_441 : FP "AfterOfficeModel" 441 12 69 .int := ⟨_, _, _, tyX12, rfl, inX12, by decide, tb_mem (tb_tab (tt_6 (List.mem_of_getElem? (i := 122) rfl))) rfl, rfl, tyX12_ok, nmX12, rfl, by decide⟩
theorem fp_X12_444 : FP "AfterOfficeModel" 444 12 70 .int := ⟨_, _, _, tyX12, rfl, inX12, by decide, tb_mem (tb_tab (tt_6 (List.mem_of_getElem? (i := 123) rfl))) rfl, rfl, tyX12_ok, nmX12, rfl, by decide⟩
theorem fp_X12_447 : FP "AfterOfficeModel" 447 12 71 .int := ⟨_, _, _, tyX12, rfl, inX12, by decide, tb_mem (tb_tab (tt_6 (List.mem_of_getElem? (i := 124) rfl))) rfl, rfl, tyX12_ok, nmX12, rfl, by decide⟩
theorem fp_X12_450 : FP "AfterOfficeModel" 450 12 73 .int := ⟨_, _, _, tyX12, rfl, inX12, by decide, tb_mem (tb_tab (tt_6 (List.mem_of_getElem? (i := 126) rfl))) rfl, rfl, tyX12_ok, nmX12, rfl, by decide⟩
theorem fp_X12_519 : FP "AfterOfficeModel" 519 12 79 .int := ⟨_, _, _, tyX12, rfl, inX12, by decide, tb_mem (tb_tab (tt_6 (List.mem_of_getElem? (i := 132) rfl))) rfl, rfl, tyX12_ok, nmX12, rfl, by decide⟩
theorem fp_X12_522 : FP "AfterOfficeModel" 522 12 80 .int := ⟨_, _, _, tyX12, rfl, inX12, by decide, tb_mem (tb_tab (tt_6 (List.mem_of_getElem? (i := 133) rfl))) rfl, rfl, tyX12_ok, nmX12, rfl, by decide⟩
theorem fp_X12_525 : FP "AfterOfficeModel" 525 12 81 .int := ⟨_, _, _, tyX12, rfl, inX12, by decide, tb_mem (tb_tab (tt_6 (List.mem_of_getElem? (i := 134) rfl))) rfl, rfl, tyX12_ok, nmX12, rfl, by decide⟩
theorem k_X12_226 : Cond.constantLong "AfterOfficeModel" 226 27 ∈ TB := tb_mem (tb_tab (tt_6 (List.mem_of_getElem? (i := 53) rfl))) rfl
theorem k_X12_540 : Cond.constantLong "AfterOfficeModel" 540 (-1) ∈ TB := tb_mem (tb_tab (tt_9 (List.mem_of_getElem? (i := 48) rfl))) rfl
theorem k_X12_542 : Cond.constantLong "AfterOfficeModel" 542 100 ∈ TB := tb_mem (tb_tab (tt_9 (List.mem_of_getElem? (i := 58) rfl))) rfl
theorem k_X12_544 : Cond.constantLong "AfterOfficeModel" 544 (-2) ∈ TB := tb_mem (tb_tab (tt_9 (List.mem_of_getElem? (i := 53) rfl))) rfl
theorem k_X12_553 : Cond.constant "AfterOfficeModel" 553 1103515245 ∈ TB := tb_mem (tb_tab (tt_9 (List.mem_of_getElem? (i := 77) rfl))) rfl
