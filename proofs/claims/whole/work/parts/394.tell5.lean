/-- letters are told -/
theorem sbw_r {a : Nat × Option Nat} {W V : Ws} (h : sbw W V = true) : sbw W (a :: V) = true := by
  unfold sbw at h ⊢
  rw [List.all_eq_true] at h ⊢
  intro e he
  rw [List.any_cons, h e he, Bool.or_true]
theorem wm_hd {k j : Nat} {W : Ws} : wm ((k, none) :: W) k j = true := by unfold wm; simp
theorem wm_ne {k k' j : Nat} {W : Ws} (h : k' ≠ k) : wm ((k, none) :: W) k' j = wm W k' j := by
  unfold wm
  rw [List.any_cons]
  have : (k == k') = false := by simpa using fun z => h z.symm
  rw [this]; rfl
def TL0 : Ws := [(142, some 6), (142, some 7), (142, some 8), (142, some 9), (145, none), (125, some 9), (125, some 11), (146, none), (129, none)]
def TL (nl : Nat) : Ws := (132 + nl, none) :: TL0
def TLm : Ws := [(0, some 11), (0, some 12), (0, some 15), (0, some 16), (0, some 42), (0, some 49), (0, some 53), (37, none), (35, none), (36, none), (29, none), (30, none), (31, none), (32, none), (33, none), (34, none), (18, none), (19, none), (20, none), (21, none), (22, none), (23, none), (24, none)]
def ltk (k : Nat) : Bool := k == 18 || (k == 19 || (k == 20 || (k == 21 || (k == 22 || (k == 23 || k == 24)))))
theorem ls_w {c0 m0 c m : Hp} {K sd t np nc nl : Nat} {kd : Nat → Nat} (P : PB c0 m0 K kd sd t c m) (N : NmR np nc nl c m) (hnl : nl < 10) (j : Nat) (v : Int32) {k : Nat} (hk : ltk k = true) (x : Int32) : PB c0 m0 K kd sd t (wI c (132 + nl) j v) (wI m k (10 * sd + nl) x) ∧ NmR np nc nl (wI c (132 + nl) j v) (wI m k (10 * sd + nl) x) := by
  have kb : 18 ≤ k ∧ k ≤ 24 := by unfold ltk at hk; simp at hk; omega
  have pk : pwm sd k (10 * sd + nl) = true := pw_10 (by unfold ltk at hk; simp at hk ⊢; omega) hnl
  have sb : sbw [(132 + nl, none)] PWc = true := by
    match nl, hnl with
    | 0, _ => rfl
    | 1, _ => rfl
    | 2, _ => rfl
    | 3, _ => rfl
    | 4, _ => rfl
    | 5, _ => rfl
    | 6, _ => rfl
    | 7, _ => rfl
    | 8, _ => rfl
    | 9, _ => rfl
  have dj : djw [(142, some 6), (142, some 7), (142, some 8), (142, some 9)] [(132 + nl, none)] = true := by
    match nl, hnl with
    | 0, _ => rfl
    | 1, _ => rfl
    | 2, _ => rfl
    | 3, _ => rfl
    | 4, _ => rfl
    | 5, _ => rfl
    | 6, _ => rfl
    | 7, _ => rfl
    | 8, _ => rfl
    | 9, _ => rfl
  exact ⟨PB_w P (W := [(132 + nl, none)]) (Agr.refl.wI wm_hd) sb dj (AgrM.refl.wI pk) ⟨wI_k (by omega), wI_k (by omega), wI_k (by omega), wI_k (by omega)⟩, NmR_w N (fun s i _ _ => rfl) ⟨wI_k (by omega), fun _ => wI_k (by omega), fun _ => wI_k (by omega), fun _ => rfl⟩⟩
theorem ls_F {c0 m0 c m : Hp} {sd nl : Nat} (F : FF c0 m0 sd c m) (hnl : nl < 10) (j : Nat) (v : Int32) : FF c0 m0 sd (wI c (132 + nl) j v) m := by
  refine FF_w F (W := [(132 + nl, none)]) (Agr.refl.wI wm_hd) ?_ ?_
  · match nl, hnl with
    | 0, _ => rfl
    | 1, _ => rfl
    | 2, _ => rfl
    | 3, _ => rfl
    | 4, _ => rfl
    | 5, _ => rfl
    | 6, _ => rfl
    | 7, _ => rfl
    | 8, _ => rfl
    | 9, _ => rfl
  · match nl, hnl with
    | 0, _ => rfl
    | 1, _ => rfl
    | 2, _ => rfl
    | 3, _ => rfl
    | 4, _ => rfl
    | 5, _ => rfl
    | 6, _ => rfl
    | 7, _ => rfl
    | 8, _ => rfl
    | 9, _ => rfl
/-- the model's telling of a letter, cut into pieces -/
def ML7 (v1 v5 : Int32) (h21 : Hp) : Option Hp := if (h21.1 0 13) = 0 then bi (fX12_is 28 h21) (fun w23 h22 => (if w23 = 0 then bX12_tellLetter_118 v1 v5 h22 else bv (fX12_condition h22) (fun h24 => bX12_tellLetter_118 v1 v5 h24))) else bX12_tellLetter_118 v1 v5 h21
def ML6 (v1 v5 w19 : Int32) (h18 : Hp) : Option Hp := ck (inb v1 20) (lt (wI h18 22 (ix v1) w19) (fun h20 => ck (inb v1 20) (lt (wI h20 23 (ix v1) (h20.1 0 42)) (fun h21 => ML7 v1 v5 h21))))
def ML5 (v1 v5 w16 : Int32) (h15 : Hp) : Option Hp := ck (inb v1 20) (lt (wI h15 21 (ix v1) w16) (fun h17 => bi (fX12_bounded 0 99 h17) (fun w19 h18 => ML6 v1 v5 w19 h18)))
def ML4 (v1 v5 w13 : Int32) (h12 : Hp) : Option Hp := ck (inb v1 20) (lt (wI h12 20 (ix v1) w13) (fun h14 => bi (fX12_bounded 0 999 h14) (fun w16 h15 => ML5 v1 v5 w16 h15)))
def ML3 (v1 v5 w10 : Int32) (h9 : Hp) : Option Hp := ck (inb v1 20) (lt (wI h9 19 (ix v1) w10) (fun h11 => bi (fX12_bounded 0 3 h11) (fun w13 h12 => ML4 v1 v5 w13 h12)))
def ML2 (v1 v5 w7 : Int32) (h6 : Hp) : Option Hp := ck (inb v1 20) (lt (wI h6 18 (ix v1) w7) (fun h8 => bi (fX12_known 0 h8) (fun w10 h9 => ML3 v1 v5 w10 h9)))
def ML1 (v1 v5 : Int32) (h3 : Hp) : Option Hp := bi (fX12_known 0 h3) (fun w7 h6 => ML2 v1 v5 w7 h6)
theorem ML_e (h : Hp) : fX12_tellLetter h = ck (inb (h.1 0 19) 2) (lt (((10 : Int32) * (h.1 0 19)) + (h.1 17 (ix (h.1 0 19)))) (fun v1 => bv (fX12_goesOn h) (fun h2 => bi (fX12_named h2) (fun w4 h3 => lt w4 (fun v5 => ML1 v1 v5 h3))))) := rfl
theorem FM_l {m0 m : Hp} {sd f p nl k : Nat} (F : FM m0 sd f p m) (hnl : nl < 10) (hk : ltk k = true) (v : Int32) : FM m0 sd f p (wI m k (10 * sd + nl) v) := by
  have kb : 18 ≤ k ∧ k ≤ 24 := by unfold ltk at hk; simp at hk; omega
  exact FM_w F (AgrM.refl.wI (pw_10 (by unfold ltk at hk; simp at hk ⊢; omega) hnl)) ⟨wI_k (by omega), wI_k (by omega), wI_k (by omega)⟩
theorem DL_118 {m0 m : Hp} {sd f p nl : Nat} (F : FM m0 sd f p m) (s2 : sd < 2) (hnl : nl < 10) (v5 : Int32) : Ok (bX12_tellLetter_118 (nI (10 * sd + nl)) v5 m) (FM m0 sd f p) := by
  unfold bX12_tellLetter_118
  rw [ck_of (nI_inb (show 10 * sd + nl < 20 by omega) (by decide)), nI_ix (by omega), lt_q, ok_bv]
  refine (D_must (FM_l F hnl rfl _) 4).mono fun m2 F2 => ?_
  rw [if_neg (FM_13 F2).2.1, ok_some]
  exact F2
theorem DL7 {m0 m : Hp} {sd f p nl : Nat} (F : FM m0 sd f p m) (s2 : sd < 2) (hnl : nl < 10) (v5 : Int32) : Ok (ML7 (nI (10 * sd + nl)) v5 m) (FM m0 sd f p) := by
  unfold ML7
  rw [if_neg (FM_13 F).1]
  exact DL_118 F s2 hnl v5
theorem DL6 {m0 m : Hp} {sd f p nl : Nat} (F : FM m0 sd f p m) (s2 : sd < 2) (hnl : nl < 10) (v5 w : Int32) : Ok (ML6 (nI (10 * sd + nl)) v5 w m) (FM m0 sd f p) := by
  unfold ML6
  rw [ck_of (nI_inb (show 10 * sd + nl < 20 by omega) (by decide)), nI_ix (by omega), lt_q, ck_of (nI_inb (show 10 * sd + nl < 20 by omega) (by decide)), lt_q]
  exact DL7 (FM_l (FM_l F hnl rfl _) hnl rfl _) s2 hnl v5
theorem DL5 {m0 m : Hp} {sd f p nl : Nat} (F : FM m0 sd f p m) (s2 : sd < 2) (hnl : nl < 10) (v5 w : Int32) : Ok (ML5 (nI (10 * sd + nl)) v5 w m) (FM m0 sd f p) := by
  unfold ML5
  rw [ck_of (nI_inb (show 10 * sd + nl < 20 by omega) (by decide)), nI_ix (by omega), lt_q, ok_bi]
  exact (D_bounded (FM_l F hnl rfl _) 0 99).mono fun q F2 => DL6 F2 s2 hnl v5 _
theorem DL4 {m0 m : Hp} {sd f p nl : Nat} (F : FM m0 sd f p m) (s2 : sd < 2) (hnl : nl < 10) (v5 w : Int32) : Ok (ML4 (nI (10 * sd + nl)) v5 w m) (FM m0 sd f p) := by
  unfold ML4
  rw [ck_of (nI_inb (show 10 * sd + nl < 20 by omega) (by decide)), nI_ix (by omega), lt_q, ok_bi]
  exact (D_bounded (FM_l F hnl rfl _) 0 999).mono fun q F2 => DL5 F2 s2 hnl v5 _
theorem DL3 {m0 m : Hp} {sd f p nl : Nat} (F : FM m0 sd f p m) (s2 : sd < 2) (hnl : nl < 10) (v5 w : Int32) : Ok (ML3 (nI (10 * sd + nl)) v5 w m) (FM m0 sd f p) := by
  unfold ML3
  rw [ck_of (nI_inb (show 10 * sd + nl < 20 by omega) (by decide)), nI_ix (by omega), lt_q, ok_bi]
  exact (D_bounded (FM_l F hnl rfl _) 0 3).mono fun q F2 => DL4 F2 s2 hnl v5 _
theorem DL2 {m0 m : Hp} {sd f p nl : Nat} (F : FM m0 sd f p m) (s2 : sd < 2) (hnl : nl < 10) (v5 w : Int32) : Ok (ML2 (nI (10 * sd + nl)) v5 w m) (FM m0 sd f p) := by
  unfold ML2
  rw [ck_of (nI_inb (show 10 * sd + nl < 20 by omega) (by decide)), nI_ix (by omega), lt_q, ok_bi]
  exact (D_known (FM_l F hnl rfl _) 0).mono fun q F2 => DL3 F2 s2 hnl v5 _
theorem DL1 {m0 m : Hp} {sd f p nl : Nat} (F : FM m0 sd f p m) (s2 : sd < 2) (hnl : nl < 10) (v5 : Int32) : Ok (ML1 (nI (10 * sd + nl)) v5 m) (FM m0 sd f p) := by
  unfold ML1
  rw [ok_bi]
  exact (D_known F 0).mono fun q F2 => DL2 F2 s2 hnl v5 _
