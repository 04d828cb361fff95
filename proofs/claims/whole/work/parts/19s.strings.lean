/-! ===== String's members over the three marks ===== -/
abbrev mx_St_coder : am_M := (⟨"java/lang/String", "coder", "()B"⟩, prog_22_method_152_code, 1, some .byte, [], 0, 0)
abbrev mx_St_isLatin1 : am_M := (⟨"java/lang/String", "isLatin1", "()Z"⟩, prog_22_method_154_code, 1, some .boolean, [], 0, 0)
abbrev mx_St_length : am_M := (⟨"java/lang/String", "length", "()I"⟩, prog_22_method_54_code, 1, some .int, [], 1, 20)
abbrev mx_St_check : am_M := (⟨"java/lang/String", "checkIndex", "(II)V"⟩, prog_22_method_155_code, 2, none, [], 1, 22)
abbrev mx_St_lat : am_M := (⟨"java/lang/StringLatin1", "charAt", "([BI)C"⟩, prog_23_method_2_code, 2, some .char, [], 2, 43)
abbrev mx_St_charAt : am_M := (⟨"java/lang/String", "charAt", "(I)C"⟩, prog_22_method_56_code, 2, some .char, [], 3, 64)
theorem cal_St_coder : am_cal mx_St_coder 0 := ⟨wd_905, wd_23, ⟨by decide, by decide⟩, by decide +kernel⟩
theorem cal_St_isLatin1 : am_cal mx_St_isLatin1 0 := ⟨wd_915, wd_23, ⟨by decide, by decide⟩, by decide +kernel⟩
theorem cal_St_length : am_cal mx_St_length 0 := ⟨wd_901, wd_23, ⟨by decide, by decide⟩, by decide +kernel⟩
theorem cal_St_check : am_cal mx_St_check 2 := ⟨wd_921, wd_23, ⟨by decide, by decide⟩, by decide +kernel⟩
theorem cal_St_lat : am_cal mx_St_lat 2 := ⟨wd_918, wd_24, ⟨by decide, by decide⟩, by decide +kernel⟩
theorem cal_St_charAt : am_cal mx_St_charAt 1 := ⟨wd_911, wd_23, ⟨by decide, by decide⟩, by decide +kernel⟩
/-- a mark -/
def am_mk (i : Nat) : Prop := 2 ≤ i ∧ i < 5
theorem m_St_coder (g : am_G) (σ : am_S) (i : Nat) (h : am_mk i) : am_Met g mx_St_coder [.ref i] σ ((some (0 : Int32)).bind (am_kPI σ)) := by
  refine am_Met.of (lv := [some (.ref i)]) (am_cc rfl am_c0) (Nat.le_of_ble_eq_true rfl) rfl (by decide) ?_
  refine aw_compact 38 (hw := wd_906) (kk := ?_)
  rw [show (some (0 : Int32)) = (if (1 : Int32) = 0 then none else some 0) from rfl]
  refine aw_if_eq 10 13 (kt := fun _ => am_W.none) (kf := fun _ => ?_)
  refine aw_aload_n 0 (kk := ?_)
  refine aw_scod 15 i h.1 h.2 (hw := wd_1536) (kk := ?_)
  refine aw_goto 4 14 (kk := ?_)
  exact aw_nretP (v := 0) (t := .byte)
theorem m_St_isLatin1 (g : am_G) (σ : am_S) (i : Nat) (h : am_mk i) : am_Met g mx_St_isLatin1 [.ref i] σ ((some (1 : Int32)).bind (am_kPI σ)) := by
  refine am_Met.of (lv := [some (.ref i)]) (am_cc rfl am_c0) (Nat.le_of_ble_eq_true rfl) rfl (by decide) ?_
  refine aw_compact 38 (hw := wd_906) (kk := ?_)
  rw [show (some (1 : Int32)) = (if (1 : Int32) = 0 then none else some 1) from rfl]
  refine aw_if_eq 14 17 (kt := fun _ => am_W.none) (kf := fun _ => ?_)
  refine aw_aload_n 0 (kk := ?_)
  refine aw_scod 15 i h.1 h.2 (hw := wd_1536) (kk := ?_)
  rw [show (some (1 : Int32)) = (if (0 : Int32) = 0 then some 1 else none) from rfl]
  refine aw_if_ne 7 17 (kt := fun _ => am_W.none) (kf := fun _ => ?_)
  refine aw_iconst 1 (v := 1) (kk := ?_)
  refine aw_goto 4 18 (kk := ?_)
  exact aw_zretPL (by decide)
def f_St_length (σ : am_S) (i : Nat) : Option Int32 := if 2 ≤ i ∧ i < 5 then (am_len σ (i + 3)).bind fun n => some (n >>> (0 &&& 31)) else none
theorem am_mk_len {σ : am_S} {i : Nat} (h : (f_St_length σ i).isSome = true) : am_mk i := by
  unfold f_St_length at h
  split at h
  · rename_i h1; exact h1
  · cases h
theorem m_St_length (g : am_G) (σ : am_S) (i : Nat) : am_Met g mx_St_length [.ref i] σ ((f_St_length σ i).bind (am_kPI σ)) := by
  refine am_Met.of (lv := [some (.ref i)]) (am_cc rfl am_c0) (Nat.le_of_ble_eq_true rfl) rfl (by decide) ?_
  unfold f_St_length
  refine am_W.ite (fun h => ?_) (fun _ => am_W.none)
  refine aw_aload_n 0 (kk := ?_)
  refine aw_sval 9 i h.1 h.2 (hw := wd_1535) (kk := ?_)
  refine aw_len (kk := fun n => ?_)
  refine aw_aload_n 0 (kk := ?_)
  rw [show (some (n >>> (0 &&& 31)) : Option Int32) = (some (0 : Int32)).bind (fun c => some (n >>> (c &&& 31))) from rfl]
  refine ac_PI (st := [.int n]) [.ref i] (fun _ => am_goVS 335 i h.1 h.2 (by decide +kernel) wd_902 cal_St_coder wd_903 wd_904) cal_St_coder ⟨by decide, by decide⟩ (Nat.le_of_ble_eq_true rfl) (m_St_coder g σ i h) (fun c => ?_)
  refine aw_ishr (kk := ?_)
  exact aw_iretP
theorem ag_St_length {g : am_G} {M : am_M} {σ : am_S} {pc : Nat} {st : List Value} (idx : Nat) {i : Nat} (hw : Cond.methodLink (am_name M).cls idx (am_name mx_St_length) ∈ lw_tbl) (hd : decode (am_code M) pc = .ok (.invokevirtual idx, 3) := by decide +kernel) : (f_St_length σ i).isSome = true → am_go g M mx_St_length σ pc [.ref i] st :=
  fun h => am_goVS (As := []) idx i (am_mk_len h).1 (am_mk_len h).2 hd hw cal_St_length wd_899 wd_900
/-! charAt: Preconditions.checkIndex takes a third thing that it doesn't look at -/
def yPre : MethodName := ⟨"jdk/internal/util/Preconditions", "checkIndex", "(IILjava/util/function/BiFunction;)I"⟩
theorem dPre0 : decode prog_28_method_11_code 0 = .ok (.iload_n 0, 1) := by decide +kernel
theorem dPre1 : decode prog_28_method_11_code 1 = .ok (.ifCond .lt 8, 3) := by decide +kernel
theorem dPre4 : decode prog_28_method_11_code 4 = .ok (.iload_n 0, 1) := by decide +kernel
theorem dPre5 : decode prog_28_method_11_code 5 = .ok (.iload_n 1, 1) := by decide +kernel
theorem dPre6 : decode prog_28_method_11_code 6 = .ok (.if_icmp .lt 10, 3) := by decide +kernel
theorem dPre16 : decode prog_28_method_11_code 16 = .ok (.iload_n 0, 1) := by decide +kernel
theorem dPre17 : decode prog_28_method_11_code 17 = .ok (.ireturn, 1) := by decide +kernel
theorem pre_met (l : Launch) (i n : Int32) (v : Value) (hv : v.category = 1) (h0 : ¬ i < 0) (h1 : i < n) : Met l yPre [Cond.code yPre prog_28_method_11_code 3 (some .int)] rm0 (fun a _ => a = ([.int i, .int n, v] : List Value).toArray) (QcRead i) 0 0 (fun _ => False) := by
  refine Met.ofW (cc := prog_28_method_11_code) (maxL := 3) (ret := some .int) (by decide) rfl ?_
  intro p e s m args below meth c s₁ B hml hP
  subst hP
  rw [entry_eq m _ (am_cc rfl (am_cc rfl (am_cc hv am_c0))) 3]
  have hx := B.exec
  have hb := B.bytes
  have hr := B.returns
  refine lv_iload_n (i := 0) (x := i) hx hb dPre0 rfl rfl ?_
  refine lv_if_lt hx hb (tgt := 9) dPre1 rfl (fun h => absurd h h0) fun _ => ?_
  refine lv_iload_n (i := 0) (x := i) hx hb dPre4 rfl rfl ?_
  refine lv_iload_n (i := 1) (x := n) hx hb dPre5 rfl rfl ?_
  refine lv_icmp_lt hx hb (tgt := 16) dPre6 rfl (fun _ => ?_) fun h => absurd h1 h
  refine lv_iload_n (i := 0) (x := i) hx hb dPre16 rfl rfl ?_
  exact W.iret hx hb hr (fun t ht _ => ⟨rfl, ht⟩) (fun q hq => by cases hq) dPre17 B.notSynchronized
theorem dChk5 : decode (am_code mx_St_check) 5 = .ok (.invokestatic 1059, 3) := by decide +kernel
theorem dChk8 : decode (am_code mx_St_check) 8 = .ok (.pop, 1) := by decide +kernel
section CHK
variable {g : am_G} {σ0 σ : am_S} {lv : List (Option Value)} {β : Type} {E : Option β} {k : β → Option (Outcome × am_S)}
theorem aw_chk {i n : Int32} (h0 : ¬ i < 0) (h1 : i < n) (kk : am_W g mx_St_check σ0 9 lv [] σ E k) : am_W g mx_St_check σ0 2 lv [.int n, .int i] σ E k := by
  intro res σ' hE
  obtain ⟨a1, b1, j⟩ := kk res σ' hE
  refine ⟨a1, b1, fun p l e R s m args below meth c H locs ls C hc hs r1 r2 hR hL hll => ?_⟩
  have w := j p l e R s m args below meth c H locs ls C hc hs r1 r2 hR hL hll
  obtain ⟨c1, c2, c3, c4, c5, c6, c7, c8, c9, c10, c11, hW, hK⟩ := C
  obtain ⟨v, hv, hz⟩ := hK.2.2.2.2.2.2.2.2.2.2.1
  have c9' : 1 ≤ R.frames := c9
  have c10' : 22 ≤ R.locals := c10
  refine am_gstat c1 c2 (am_Zs hW hR hz) c4 (am_word hK hW wd_922 rfl) (by decide +kernel) ?_
  have hcode : (Cond.code yPre prog_28_method_11_code 3 (some .int)).before args s = true := am_word hK hW wd_926 rfl
  have run := W.runS (p := p) (l := l) (e := e) (R := R) (s := s) (m := m) (args := args) (below := below) (meth := meth) (c := c) (H := H) (locs := locs) (cells := σ.1 - σ0.1) (slots := σ.2.1 - σ0.2.1) (Ts := []) (cc := am_code mx_St_check) (nL := 2) (own := "java/lang/String") (index := 1059) (n := 3) (bytes := prog_28_method_11_code) (maxL := 3) (ret := some .int)
    ⟨c1, c2, c3, c4, fun w hw => by cases hw⟩ (pre_met l i n v hv h0 h1)
    ⟨⟨rfl, rfl, by show 0 + 1 ≤ R.frames; omega, by show 8 + (3 + 11) + 0 ≤ R.locals; omega, fun w hw a' U hU => by rw [List.mem_singleton.mp hw]; exact word_at hU (good_of_word rfl) hcode, List.mem_singleton.mpr rfl, hcode, am_word hK hW wd_25 rfl, ⟨by decide, by decide⟩, fun sig h => by
      have h2 : (parseMethodDescriptor yPre.desc).map (fun d => d.parameters.length) = some 3 := by decide +kernel
      rw [h] at h2
      exact (Option.some.inj h2).symm, am_word hK hW wd_924 rfl⟩, am_word hK hW wd_925 rfl⟩
    (As := [.int i, .int n, v]) ⟨fun _ _ _ _ q => q, fun _ _ _ => rfl⟩ (g := F0 m 5 ls [v, .int n, .int i]) (rest := []) rfl rfl (hL.size) rfl (by show 2 * 0 + 0 ≤ 8; omega) dChk5 ⟨by omega, by omega⟩
  refine W.callR (r := i) run ?_
  exact lv_pop (va := .int i) c1 c2 dChk8 rfl w
end CHK
def am_sc (i n : Int32) (σ : am_S) : Option am_S := if ¬ i < 0 ∧ i < n then some σ else none
theorem m_St_check (g : am_G) (σ : am_S) (i n : Int32) : am_Met g mx_St_check [.int i, .int n] σ ((am_sc i n σ).bind am_kV) := by
  refine am_Met.of (lv := [some (.int i), some (.int n)]) (am_cc rfl (am_cc rfl am_c0)) (Nat.le_of_ble_eq_true rfl) rfl (by decide) ?_
  unfold am_sc
  refine am_W.ite (fun h => ?_) (fun _ => am_W.none)
  refine aw_iload_n 0 (kk := ?_)
  refine aw_iload_n 1 (kk := ?_)
  refine aw_chk h.1 h.2 ?_
  exact aw_vret
def am_chr (b : Int32) : Int32 := ((b &&& 255).toUInt32 % 65536).toInt32
def am_chr' (b : Int32) : Option Int32 := if narrow .char (.int (am_chr b)) = .int (am_chr b) then some (am_chr b) else none
def f_St_lat (σ : am_S) (a : Nat) (i : Int32) : Option Int32 := (am_len σ a).bind fun n => if ¬ i < 0 ∧ i < n then (am_lI σ .byte a i).bind am_chr' else none
theorem m_St_lat (g : am_G) (σ : am_S) (a : Nat) (i : Int32) : am_Met g mx_St_lat [.ref a, .int i] σ ((f_St_lat σ a i).bind (am_kPI σ)) := by
  refine am_Met.of (lv := [some (.ref a), some (.int i)]) (am_cc rfl (am_cc rfl am_c0)) (Nat.le_of_ble_eq_true rfl) rfl (by decide) ?_
  unfold f_St_lat
  refine aw_iload_n 1 (kk := ?_)
  refine aw_aload_n 0 (kk := ?_)
  refine aw_len (kk := fun n => ?_)
  refine am_W.ite (fun h => ?_) (fun _ => am_W.none)
  obtain ⟨m1, m2, mt⟩ := m_St_check g σ i n (.returned none) σ (by unfold am_sc; rw [if_pos h]; rfl)
  refine am_W.ret1 (as := [.int i, .int n]) (st := []) (am_goS 9 (by decide +kernel) wd_919 cal_St_check wd_920) cal_St_check ⟨by decide, by decide⟩ (Nat.le_of_ble_eq_true rfl) m1 m2 mt ?_
  refine aw_aload_n 0 (kk := ?_)
  refine aw_iload_n 1 (kk := ?_)
  refine aw_lB (kk := fun b => ?_)
  refine aw_sipush 255 (v := 255) (kk := ?_)
  refine aw_iand (kk := ?_)
  refine aw_i2c (kk := ?_)
  exact aw_nretP
def f_St_charAt (σ : am_S) (i : Nat) (j : Int32) : Option Int32 := if 2 ≤ i ∧ i < 5 then (f_St_lat σ (i + 3) j).bind fun v => if narrow .char (.int v) = .int v then some v else none else none
theorem am_mk_chr {σ : am_S} {i : Nat} {j : Int32} (h : (f_St_charAt σ i j).isSome = true) : am_mk i := by
  unfold f_St_charAt at h
  split at h
  · rename_i h1; exact h1
  · cases h
theorem m_St_charAt (g : am_G) (σ : am_S) (i : Nat) (j : Int32) : am_Met g mx_St_charAt [.ref i, .int j] σ ((f_St_charAt σ i j).bind (am_kPI σ)) := by
  refine am_Met.of (lv := [some (.ref i), some (.int j)]) (am_cc rfl (am_cc rfl am_c0)) (Nat.le_of_ble_eq_true rfl) rfl (by decide) ?_
  unfold f_St_charAt
  refine am_W.ite (fun h => ?_) (fun _ => am_W.none)
  refine aw_aload_n 0 (kk := ?_)
  rw [show ((f_St_lat σ (i + 3) j).bind fun v => if narrow .char (.int v) = .int v then some v else none) = (some (1 : Int32)).bind (fun c => if c = 0 then none else (f_St_lat σ (i + 3) j).bind fun v => if narrow .char (.int v) = .int v then some v else none) from rfl]
  refine ac_PI (st := []) [.ref i] (fun _ => am_goVS 492 i h.1 h.2 (by decide +kernel) wd_912 cal_St_isLatin1 wd_913 wd_914) cal_St_isLatin1 ⟨by decide, by decide⟩ (Nat.le_of_ble_eq_true rfl) (m_St_isLatin1 g σ i h) (fun c => ?_)
  refine aw_if_eq 12 16 (kt := fun _ => am_W.none) (kf := fun _ => ?_)
  refine aw_aload_n 0 (kk := ?_)
  refine aw_sval 9 i h.1 h.2 (hw := wd_1535) (kk := ?_)
  refine aw_iload_n 1 (kk := ?_)
  refine ac_PI (st := []) [.ref (i + 3), .int j] (ag_S 495 wd_916 cal_St_lat wd_917) cal_St_lat ⟨by decide, by decide⟩ (Nat.le_of_ble_eq_true rfl) (m_St_lat g σ (i + 3) j) (fun v => ?_)
  exact aw_nretP
theorem ag_St_charAt {g : am_G} {M : am_M} {σ : am_S} {pc : Nat} {st : List Value} (idx : Nat) {i : Nat} {j : Int32} (hw : Cond.methodLink (am_name M).cls idx (am_name mx_St_charAt) ∈ lw_tbl) (hd : decode (am_code M) pc = .ok (.invokevirtual idx, 3) := by decide +kernel) : (f_St_charAt σ i j).isSome = true → am_go g M mx_St_charAt σ pc [.ref i, .int j] st :=
  fun h => am_goVS (As := [.int j]) idx i (am_mk_chr h).1 (am_mk_chr h).2 hd hw cal_St_charAt wd_909 wd_910
