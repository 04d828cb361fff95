/-! ===== printed by wip/gen ===== -/
def f_Pa_init (F : Nat) (σ : am_S) (x0 : Nat) (x1 : Nat) : Option (am_S) :=
  am_ck σ 8 x0 (
  (am_pA σ 8 0 x0 x1).bind fun σ1 =>
  some σ1)
theorem rc_Pa_init {F : Nat} {σ : am_S} {x0 : Nat} {x1 : Nat} (h : (f_Pa_init F σ x0 x1).isSome = true) : ∃ fs, σ.2.2 x0 = some (.inr (8, fs)) := am_ck_some h
theorem m_Pa_init (g : am_G) (F : Nat) (σ : am_S) (x0 : Nat) (x1 : Nat) : am_Met g mx_Pa_init [.ref x0, .ref x1] σ ((f_Pa_init F σ x0 x1).bind am_kV) := by
  refine am_Met.of (lv := [some (.ref x0), some (.ref x1)]) (am_cc rfl (am_cc rfl am_c0)) (Nat.le_of_ble_eq_true rfl) rfl (by decide) ?_
  unfold f_Pa_init
  refine am_W.ck ?_
  refine aw_aload_n 0 (kk := ?_)
  refine aw_obj 1 (hw := wd_197) (hw2 := wd_33) (hw3 := wd_34) (hr := Nat.le_of_ble_eq_true rfl) (kk := ?_)
  refine aw_aload_n 0 (kk := ?_)
  refine aw_aload_n 1 (kk := ?_)
  refine aw_pAF 8 0 7 (hw := wd_198) (kk := fun σ1 => ?_)
  exact aw_vret
def f_Tm_init (F : Nat) (σ : am_S) (x0 : Nat) (x1 : Nat) : Option (am_S) :=
  am_ck σ 7 x0 (
  am_b2 (am_na σ .int 40401) fun a1 σ2 =>
  (am_pA σ2 7 4 x0 a1).bind fun σ3 =>
  am_b2 (am_na σ3 .int 200) fun a4 σ5 =>
  (am_pA σ5 7 5 x0 a4).bind fun σ6 =>
  am_b2 (am_na σ6 .int 200) fun a7 σ8 =>
  (am_pA σ8 7 6 x0 a7).bind fun σ9 =>
  am_b2 (am_na σ9 .byte 65536) fun a10 σ11 =>
  (am_pA σ11 7 7 x0 a10).bind fun σ12 =>
  (am_pA σ12 7 0 x0 x1).bind fun σ13 =>
  (f_Pa_init F (am_no σ13 8) σ13.1 x1).bind fun σ14 =>
  (am_pA σ14 7 1 x0 σ13.1).bind fun σ15 =>
  (f_Pa_init F (am_no σ15 8) σ15.1 x1).bind fun σ16 =>
  (am_pA σ16 7 2 x0 σ15.1).bind fun σ17 =>
  (f_Pa_init F (am_no σ17 8) σ17.1 x1).bind fun σ18 =>
  (am_pA σ18 7 3 x0 σ17.1).bind fun σ19 =>
  some σ19)
theorem rc_Tm_init {F : Nat} {σ : am_S} {x0 : Nat} {x1 : Nat} (h : (f_Tm_init F σ x0 x1).isSome = true) : ∃ fs, σ.2.2 x0 = some (.inr (7, fs)) := am_ck_some h
theorem m_Tm_init (g : am_G) (F : Nat) (σ : am_S) (x0 : Nat) (x1 : Nat) : am_Met g mx_Tm_init [.ref x0, .ref x1] σ ((f_Tm_init F σ x0 x1).bind am_kV) := by
  refine am_Met.of (lv := [some (.ref x0), some (.ref x1)]) (am_cc rfl (am_cc rfl am_c0)) (Nat.le_of_ble_eq_true rfl) rfl (by decide) ?_
  unfold f_Tm_init
  refine am_W.ck ?_
  refine aw_aload_n 0 (kk := ?_)
  refine aw_obj 3 (hw := wd_189) (hw2 := wd_33) (hw3 := wd_34) (hr := Nat.le_of_ble_eq_true rfl) (kk := ?_)
  refine aw_aload_n 0 (kk := ?_)
  refine aw_ldc 11 (v := 40401) (hw := wd_190) (kk := ?_)
  refine aw_na2 .int (hw := wd_55) (kk := fun a1 σ2 => ?_)
  refine aw_pAF 7 4 12 (hw := wd_215) (kk := fun σ3 => ?_)
  refine aw_aload_n 0 (kk := ?_)
  refine aw_sipush 200 (v := 200) (kk := ?_)
  refine aw_na2 .int (hw := wd_55) (kk := fun a4 σ5 => ?_)
  refine aw_pAF 7 5 16 (hw := wd_216) (kk := fun σ6 => ?_)
  refine aw_aload_n 0 (kk := ?_)
  refine aw_sipush 200 (v := 200) (kk := ?_)
  refine aw_na2 .int (hw := wd_55) (kk := fun a7 σ8 => ?_)
  refine aw_pAF 7 6 19 (hw := wd_217) (kk := fun σ9 => ?_)
  refine aw_aload_n 0 (kk := ?_)
  refine aw_ldc 22 (v := 65536) (hw := wd_191) (kk := ?_)
  refine aw_na2 .byte (hw := wd_54) (kk := fun a10 σ11 => ?_)
  refine aw_pAF 7 7 23 (hw := wd_218) (kk := fun σ12 => ?_)
  refine aw_aload_n 0 (kk := ?_)
  refine aw_aload_n 1 (kk := ?_)
  refine aw_pAF 7 0 27 (hw := wd_211) (kk := fun σ13 => ?_)
  refine aw_aload_n 0 (kk := ?_)
  refine aw_new 8 31 (hw := wd_192) (hw2 := wd_193) (hw3 := wd_9) (kk := ?_)
  refine aw_dup (kk := ?_)
  refine aw_aload_n 1 (kk := ?_)
  refine ac_V (st := [.ref σ13.1, .ref x0]) [.ref σ13.1, .ref x1] (ag_I 33 wd_194 cal_Pa_init wd_195) cal_Pa_init ⟨by decide, by decide⟩ (Nat.le_of_ble_eq_true rfl) (m_Pa_init g F (am_no σ13 8) σ13.1 x1) (fun σ14 => ?_)
  refine aw_pAF 7 1 36 (hw := wd_212) (kk := fun σ15 => ?_)
  refine aw_aload_n 0 (kk := ?_)
  refine aw_new 8 31 (hw := wd_192) (hw2 := wd_193) (hw3 := wd_9) (kk := ?_)
  refine aw_dup (kk := ?_)
  refine aw_aload_n 1 (kk := ?_)
  refine ac_V (st := [.ref σ15.1, .ref x0]) [.ref σ15.1, .ref x1] (ag_I 33 wd_194 cal_Pa_init wd_195) cal_Pa_init ⟨by decide, by decide⟩ (Nat.le_of_ble_eq_true rfl) (m_Pa_init g F (am_no σ15 8) σ15.1 x1) (fun σ16 => ?_)
  refine aw_pAF 7 2 40 (hw := wd_213) (kk := fun σ17 => ?_)
  refine aw_aload_n 0 (kk := ?_)
  refine aw_new 8 31 (hw := wd_192) (hw2 := wd_193) (hw3 := wd_9) (kk := ?_)
  refine aw_dup (kk := ?_)
  refine aw_aload_n 1 (kk := ?_)
  refine ac_V (st := [.ref σ17.1, .ref x0]) [.ref σ17.1, .ref x1] (ag_I 33 wd_194 cal_Pa_init wd_195) cal_Pa_init ⟨by decide, by decide⟩ (Nat.le_of_ble_eq_true rfl) (m_Pa_init g F (am_no σ17 8) σ17.1 x1) (fun σ18 => ?_)
  refine aw_pAF 7 3 43 (hw := wd_214) (kk := fun σ19 => ?_)
  exact aw_vret
def f_Tm_startText (F : Nat) (σ : am_S) (x0 : Nat) : Option (am_S) :=
  am_ck σ 7 x0 (
  (am_pI σ 7 8 x0 0).bind fun σ1 =>
  (am_pZ σ1 7 9 x0 0).bind fun σ2 =>
  (am_pZ σ2 7 10 x0 0).bind fun σ3 =>
  some σ3)
theorem rc_Tm_startText {F : Nat} {σ : am_S} {x0 : Nat} (h : (f_Tm_startText F σ x0).isSome = true) : ∃ fs, σ.2.2 x0 = some (.inr (7, fs)) := am_ck_some h
theorem m_Tm_startText (g : am_G) (F : Nat) (σ : am_S) (x0 : Nat) : am_Met g mx_Tm_startText [.ref x0] σ ((f_Tm_startText F σ x0).bind am_kV) := by
  refine am_Met.of (lv := [some (.ref x0)]) (am_cc rfl am_c0) (Nat.le_of_ble_eq_true rfl) rfl (by decide) ?_
  unfold f_Tm_startText
  refine am_W.ck ?_
  refine aw_aload_n 0 (kk := ?_)
  refine aw_iconst 0 (v := 0) (kk := ?_)
  refine aw_pI 7 8 46 (hw := wd_219) (kk := fun σ1 => ?_)
  refine aw_aload_n 0 (kk := ?_)
  refine aw_iconst 0 (v := 0) (kk := ?_)
  refine aw_pZ 7 9 50 (hw := wd_220) (kk := fun σ2 => ?_)
  refine aw_aload_n 0 (kk := ?_)
  refine aw_iconst 0 (v := 0) (kk := ?_)
  refine aw_pZ 7 10 81 (hw := wd_221) (kk := fun σ3 => ?_)
  exact aw_vret
def f_Pa_begin (F : Nat) (σ : am_S) (x0 : Nat) (x1 : Int32) : Option (am_S) :=
  am_ck σ 8 x0 (
  (am_pI σ 8 1 x0 x1).bind fun σ1 =>
  (am_pI σ1 8 2 x0 0).bind fun σ2 =>
  (am_pI σ2 8 3 x0 0).bind fun σ3 =>
  some σ3)
theorem rc_Pa_begin {F : Nat} {σ : am_S} {x0 : Nat} {x1 : Int32} (h : (f_Pa_begin F σ x0 x1).isSome = true) : ∃ fs, σ.2.2 x0 = some (.inr (8, fs)) := am_ck_some h
theorem m_Pa_begin (g : am_G) (F : Nat) (σ : am_S) (x0 : Nat) (x1 : Int32) : am_Met g mx_Pa_begin [.ref x0, .int x1] σ ((f_Pa_begin F σ x0 x1).bind am_kV) := by
  refine am_Met.of (lv := [some (.ref x0), some (.int x1)]) (am_cc rfl (am_cc rfl am_c0)) (Nat.le_of_ble_eq_true rfl) rfl (by decide) ?_
  unfold f_Pa_begin
  refine am_W.ck ?_
  refine aw_aload_n 0 (kk := ?_)
  refine aw_iload_n 1 (kk := ?_)
  refine aw_pI 8 1 13 (hw := wd_199) (kk := fun σ1 => ?_)
  refine aw_aload_n 0 (kk := ?_)
  refine aw_iconst 0 (v := 0) (kk := ?_)
  refine aw_pI 8 2 17 (hw := wd_200) (kk := fun σ2 => ?_)
  refine aw_aload_n 0 (kk := ?_)
  refine aw_iconst 0 (v := 0) (kk := ?_)
  refine aw_pI 8 3 20 (hw := wd_201) (kk := fun σ3 => ?_)
  exact aw_vret
def f_Tm_fillLongest_l22 (F : Nat) (x0 : Nat) (x3 : Int32) (x4 : Int32) (k49 : am_S → Option (am_S)) : Nat → Int32 → am_S → Option (am_S)
  | 0, _, _ => none
  | n + 1, x5, σ =>
    if x4 < x5 then
      k49 σ
    else
      (am_gA σ 7 4 x0).bind fun v5 =>
      (am_sI σ v5 ((x3 * 201) + x5) 0).bind fun σ6 =>
      f_Tm_fillLongest_l22 F x0 x3 x4 k49 n (x5 + 1) σ6
theorem b_Tm_fillLongest_l22 {g : am_G} {σ0 : am_S} (F : Nat) (x0 : Nat) (x1 : Int32) (x2 : Int32) (x3 : Int32) (x4 : Int32) (k49 : am_S → Option (am_S)) (h49 : ∀ (τ : am_S), am_W g mx_Tm_fillLongest σ0 49 [some (.ref x0), some (.int x1), some (.int x2), some (.int x3), some (.int x4), none, none, none, none] [] τ (k49 τ) am_kV) : ∀ (n : Nat) (x5 : Int32) (σ : am_S), am_W g mx_Tm_fillLongest σ0 22 [some (.ref x0), some (.int x1), some (.int x2), some (.int x3), some (.int x4), some (.int x5), none, none, none] [] σ (f_Tm_fillLongest_l22 F x0 x3 x4 k49 n x5 σ) am_kV := by
  intro n
  induction n with
  | zero =>
    intro x5 σ
    rw [f_Tm_fillLongest_l22]
    exact am_W.none
  | succ n ih =>
    intro x5 σ
    rw [f_Tm_fillLongest_l22]
    refine aw_iload 5 (kk := ?_)
    refine aw_iload 4 (kk := ?_)
    refine aw_icmp_gt 23 49 (kt := fun _ => ?_) (kf := fun _ => ?_)
    · exact am_W.drop [true, true, true, true, true, false, false, false, false] (h49 σ)
    · refine aw_aload_n 0 (kk := ?_)
      refine aw_gA 7 4 12 (hw := wd_215) (kk := fun v5 => ?_)
      refine aw_iload_n 3 (kk := ?_)
      refine aw_sipush 201 (v := 201) (kk := ?_)
      refine aw_imul (kk := ?_)
      refine aw_iload 5 (kk := ?_)
      refine aw_iadd (kk := ?_)
      refine aw_iconst 0 (v := 0) (kk := ?_)
      refine aw_sI (kk := fun σ6 => ?_)
      refine aw_iinc 5 1 (v := 1) (kk := ?_)
      refine aw_goto (-24) 22 (kk := ?_)
      exact am_W.drop [true, true, true, true, true, true, false, false, false] (ih (x5 + 1) σ6)
def f_Tm_fillLongest_l96 (F : Nat) (x0 : Nat) (x2 : Int32) (x6 : Int32) (x7 : Int32) (k192 : am_S → Option (am_S)) : Nat → Int32 → am_S → Option (am_S)
  | 0, _, _ => none
  | n + 1, x8, σ =>
    if x8 < 0 then
      k192 σ
    else
      (am_gA σ 7 0 x0).bind fun v11 =>
      (f_Bl_lineKind F σ v11 x2 x8).bind fun v12 =>
      if x7 = v12 then
        (am_gA σ 7 4 x0).bind fun v19 =>
        (am_gA σ 7 4 x0).bind fun v20 =>
        (am_lI σ .int v20 (((x6 + 201) + x8) + 1)).bind fun v21 =>
        (am_sI σ v19 (x6 + x8) (v21 + 1)).bind fun σ22 =>
        f_Tm_fillLongest_l96 F x0 x2 x6 x7 k192 n (x8 + (-1)) σ22
      else
        (am_gA σ 7 4 x0).bind fun v13 =>
        (am_gA σ 7 4 x0).bind fun v14 =>
        (am_lI σ .int v14 ((x6 + 201) + x8)).bind fun v15 =>
        (am_gA σ 7 4 x0).bind fun v16 =>
        (am_lI σ .int v16 ((x6 + x8) + 1)).bind fun v17 =>
        (am_sI σ v13 (x6 + x8) (am_max v15 v17)).bind fun σ18 =>
        f_Tm_fillLongest_l96 F x0 x2 x6 x7 k192 n (x8 + (-1)) σ18
theorem b_Tm_fillLongest_l96 {g : am_G} {σ0 : am_S} (F : Nat) (x0 : Nat) (x1 : Int32) (x2 : Int32) (x4 : Int32) (x5 : Int32) (x6 : Int32) (x7 : Int32) (k192 : am_S → Option (am_S)) (h192 : ∀ (τ : am_S), am_W g mx_Tm_fillLongest σ0 192 [some (.ref x0), some (.int x1), some (.int x2), none, some (.int x4), some (.int x5), none, none, none] [] τ (k192 τ) am_kV) : ∀ (n : Nat) (x8 : Int32) (σ : am_S), am_W g mx_Tm_fillLongest σ0 96 [some (.ref x0), some (.int x1), some (.int x2), none, some (.int x4), some (.int x5), some (.int x6), some (.int x7), some (.int x8)] [] σ (f_Tm_fillLongest_l96 F x0 x2 x6 x7 k192 n x8 σ) am_kV := by
  intro n
  induction n with
  | zero =>
    intro x8 σ
    rw [f_Tm_fillLongest_l96]
    exact am_W.none
  | succ n ih =>
    intro x8 σ
    rw [f_Tm_fillLongest_l96]
    refine aw_iload 8 (kk := ?_)
    refine aw_if_lt 94 192 (kt := fun _ => ?_) (kf := fun _ => ?_)
    · exact am_W.drop [true, true, true, false, true, true, false, false, false] (h192 σ)
    · refine aw_iload 7 (kk := ?_)
      refine aw_aload_n 0 (kk := ?_)
      refine aw_gA 7 0 27 (hw := wd_211) (kk := fun v11 => ?_)
      refine aw_iload_n 2 (kk := ?_)
      refine aw_iload 8 (kk := ?_)
      refine ac_PI (st := [.int x7]) [.ref v11, .int x2, .int x8] (ag_V 97 2 rc_Bl_lineKind wd_853 cal_Bl_lineKind wd_747 wd_748) cal_Bl_lineKind ⟨by decide, by decide⟩ (Nat.le_of_ble_eq_true rfl) (m_Bl_lineKind g F σ v11 x2 x8) (fun v12 => ?_)
      refine aw_icmp_ne 34 147 (kt := fun _ => ?_) (kf := fun _ => ?_)
      · refine aw_aload_n 0 (kk := ?_)
        refine aw_gA 7 4 12 (hw := wd_215) (kk := fun v13 => ?_)
        refine aw_iload 6 (kk := ?_)
        refine aw_iload 8 (kk := ?_)
        refine aw_iadd (kk := ?_)
        refine aw_aload_n 0 (kk := ?_)
        refine aw_gA 7 4 12 (hw := wd_215) (kk := fun v14 => ?_)
        refine aw_iload 6 (kk := ?_)
        refine aw_sipush 201 (v := 201) (kk := ?_)
        refine aw_iadd (kk := ?_)
        refine aw_iload 8 (kk := ?_)
        refine aw_iadd (kk := ?_)
        refine aw_lI (kk := fun v15 => ?_)
        refine aw_aload_n 0 (kk := ?_)
        refine aw_gA 7 4 12 (hw := wd_215) (kk := fun v16 => ?_)
        refine aw_iload 6 (kk := ?_)
        refine aw_iload 8 (kk := ?_)
        refine aw_iadd (kk := ?_)
        refine aw_iconst 1 (v := 1) (kk := ?_)
        refine aw_iadd (kk := ?_)
        refine aw_lI (kk := fun v17 => ?_)
        refine aw_max 101 (hw := wd_854) (hw2 := wd_740) (hw3 := wd_21) (hw4 := wd_741) (hr := Nat.le_of_ble_eq_true rfl) (kk := ?_)
        refine aw_sI (kk := fun σ18 => ?_)
        refine aw_iinc 8 (-1) (v := (-1)) (kk := ?_)
        refine aw_goto (-93) 96 (kk := ?_)
        exact am_W.drop [true, true, true, false, true, true, true, true, true] (ih (x8 + (-1)) σ18)
      · refine aw_aload_n 0 (kk := ?_)
        refine aw_gA 7 4 12 (hw := wd_215) (kk := fun v19 => ?_)
        refine aw_iload 6 (kk := ?_)
        refine aw_iload 8 (kk := ?_)
        refine aw_iadd (kk := ?_)
        refine aw_aload_n 0 (kk := ?_)
        refine aw_gA 7 4 12 (hw := wd_215) (kk := fun v20 => ?_)
        refine aw_iload 6 (kk := ?_)
        refine aw_sipush 201 (v := 201) (kk := ?_)
        refine aw_iadd (kk := ?_)
        refine aw_iload 8 (kk := ?_)
        refine aw_iadd (kk := ?_)
        refine aw_iconst 1 (v := 1) (kk := ?_)
        refine aw_iadd (kk := ?_)
        refine aw_lI (kk := fun v21 => ?_)
        refine aw_iconst 1 (v := 1) (kk := ?_)
        refine aw_iadd (kk := ?_)
        refine aw_sI (kk := fun σ22 => ?_)
        refine aw_goto 42 186 (kk := ?_)
        refine aw_iinc 8 (-1) (v := (-1)) (kk := ?_)
        refine aw_goto (-93) 96 (kk := ?_)
        exact am_W.drop [true, true, true, false, true, true, true, true, true] (ih (x8 + (-1)) σ22)
def f_Tm_fillLongest_j192 (F : Nat) (x5 : Int32) (k54 : Int32 → am_S → Option (am_S)) (σ : am_S) : Option (am_S) :=
  k54 (x5 + (-1)) σ
theorem b_Tm_fillLongest_j192 {g : am_G} {σ0 : am_S} (F : Nat) (x0 : Nat) (x1 : Int32) (x2 : Int32) (x4 : Int32) (x5 : Int32) (k54 : Int32 → am_S → Option (am_S)) (h54 : ∀ (y5 : Int32)  (τ : am_S), am_W g mx_Tm_fillLongest σ0 54 [some (.ref x0), some (.int x1), some (.int x2), none, some (.int x4), some (.int y5), none, none, none] [] τ (k54 y5 τ) am_kV) (σ : am_S) : am_W g mx_Tm_fillLongest σ0 192 [some (.ref x0), some (.int x1), some (.int x2), none, some (.int x4), some (.int x5), none, none, none] [] σ (f_Tm_fillLongest_j192 F x5 k54 σ) am_kV := by
  unfold f_Tm_fillLongest_j192
  refine aw_iinc 5 (-1) (v := (-1)) (kk := ?_)
  refine aw_goto (-141) 54 (kk := ?_)
  exact am_W.drop [true, true, true, false, true, true, false, false, false] (h54 (x5 + (-1)) σ)
def f_Tm_fillLongest_l54 (F : Nat) (x0 : Nat) (x1 : Int32) (x2 : Int32) (x4 : Int32)  : Nat → Int32 → am_S → Option (am_S)
  | 0, _, _ => none
  | n + 1, x5, σ =>
    if x5 < 0 then
      some σ
    else
      (am_gA σ 7 0 x0).bind fun v7 =>
      (f_Bl_lineKind F σ v7 x1 x5).bind fun v8 =>
      (am_gA σ 7 4 x0).bind fun v9 =>
      (am_sI σ v9 ((x5 * 201) + x4) 0).bind fun σ10 =>
      f_Tm_fillLongest_l96 F x0 x2 (x5 * 201) v8 (fun τ => f_Tm_fillLongest_j192 F x5 (fun y5 τ => f_Tm_fillLongest_l54 F x0 x1 x2 x4 n y5 τ) τ) F (x4 - 1) σ10
theorem b_Tm_fillLongest_l54 {g : am_G} {σ0 : am_S} (F : Nat) (x0 : Nat) (x1 : Int32) (x2 : Int32) (x4 : Int32)   : ∀ (n : Nat) (x5 : Int32) (σ : am_S), am_W g mx_Tm_fillLongest σ0 54 [some (.ref x0), some (.int x1), some (.int x2), none, some (.int x4), some (.int x5), none, none, none] [] σ (f_Tm_fillLongest_l54 F x0 x1 x2 x4 n x5 σ) am_kV := by
  intro n
  induction n with
  | zero =>
    intro x5 σ
    rw [f_Tm_fillLongest_l54]
    exact am_W.none
  | succ n ih =>
    intro x5 σ
    rw [f_Tm_fillLongest_l54]
    refine aw_iload 5 (kk := ?_)
    refine aw_if_lt 142 198 (kt := fun _ => ?_) (kf := fun _ => ?_)
    · exact aw_vret
    · refine aw_iload 5 (kk := ?_)
      refine aw_sipush 201 (v := 201) (kk := ?_)
      refine aw_imul (kk := ?_)
      refine aw_istore 6 (kk := ?_)
      refine aw_aload_n 0 (kk := ?_)
      refine aw_gA 7 0 27 (hw := wd_211) (kk := fun v7 => ?_)
      refine aw_iload_n 1 (kk := ?_)
      refine aw_iload 5 (kk := ?_)
      refine ac_PI (st := []) [.ref v7, .int x1, .int x5] (ag_V 97 2 rc_Bl_lineKind wd_853 cal_Bl_lineKind wd_747 wd_748) cal_Bl_lineKind ⟨by decide, by decide⟩ (Nat.le_of_ble_eq_true rfl) (m_Bl_lineKind g F σ v7 x1 x5) (fun v8 => ?_)
      refine aw_istore 7 (kk := ?_)
      refine aw_aload_n 0 (kk := ?_)
      refine aw_gA 7 4 12 (hw := wd_215) (kk := fun v9 => ?_)
      refine aw_iload 6 (kk := ?_)
      refine aw_iload 4 (kk := ?_)
      refine aw_iadd (kk := ?_)
      refine aw_iconst 0 (v := 0) (kk := ?_)
      refine aw_sI (kk := fun σ10 => ?_)
      refine aw_iload 4 (kk := ?_)
      refine aw_iconst 1 (v := 1) (kk := ?_)
      refine aw_isub (kk := ?_)
      refine aw_istore 8 (kk := ?_)
      exact am_W.drop [true, true, true, false, true, true, true, true, true] (b_Tm_fillLongest_l96 F x0 x1 x2 x4 x5 (x5 * 201) v8 (fun τ => f_Tm_fillLongest_j192 F x5 (fun y5 τ => f_Tm_fillLongest_l54 F x0 x1 x2 x4 n y5 τ) τ) (fun τ => am_W.drop [true, true, true, false, true, true, false, false, false] (b_Tm_fillLongest_j192 F x0 x1 x2 x4 x5 (fun y5 τ => f_Tm_fillLongest_l54 F x0 x1 x2 x4 n y5 τ) (fun y5 τ => am_W.drop [true, true, true, false, true, true, false, false, false] (ih y5 τ)) τ)) F (x4 - 1) σ10)
def f_Tm_fillLongest_j49 (F : Nat) (x0 : Nat) (x1 : Int32) (x2 : Int32) (x3 : Int32) (x4 : Int32)  (σ : am_S) : Option (am_S) :=
  f_Tm_fillLongest_l54 F x0 x1 x2 x4 F (x3 - 1) σ
theorem b_Tm_fillLongest_j49 {g : am_G} {σ0 : am_S} (F : Nat) (x0 : Nat) (x1 : Int32) (x2 : Int32) (x3 : Int32) (x4 : Int32)   (σ : am_S) : am_W g mx_Tm_fillLongest σ0 49 [some (.ref x0), some (.int x1), some (.int x2), some (.int x3), some (.int x4), none, none, none, none] [] σ (f_Tm_fillLongest_j49 F x0 x1 x2 x3 x4 σ) am_kV := by
  unfold f_Tm_fillLongest_j49
  refine aw_iload_n 3 (kk := ?_)
  refine aw_iconst 1 (v := 1) (kk := ?_)
  refine aw_isub (kk := ?_)
  refine aw_istore 5 (kk := ?_)
  exact am_W.drop [true, true, true, false, true, true, false, false, false] (b_Tm_fillLongest_l54 F x0 x1 x2 x4 F (x3 - 1) σ)
def f_Tm_fillLongest (F : Nat) (σ : am_S) (x0 : Nat) (x1 : Int32) (x2 : Int32) : Option (am_S) :=
  am_ck σ 7 x0 (
  (am_gA σ 7 0 x0).bind fun v1 =>
  (f_Bl_lineCount F σ v1 x1).bind fun v2 =>
  (am_gA σ 7 0 x0).bind fun v3 =>
  (f_Bl_lineCount F σ v3 x2).bind fun v4 =>
  f_Tm_fillLongest_l22 F x0 v2 v4 (fun τ => f_Tm_fillLongest_j49 F x0 x1 x2 v2 v4 τ) F 0 σ)
theorem rc_Tm_fillLongest {F : Nat} {σ : am_S} {x0 : Nat} {x1 : Int32} {x2 : Int32} (h : (f_Tm_fillLongest F σ x0 x1 x2).isSome = true) : ∃ fs, σ.2.2 x0 = some (.inr (7, fs)) := am_ck_some h
theorem m_Tm_fillLongest (g : am_G) (F : Nat) (σ : am_S) (x0 : Nat) (x1 : Int32) (x2 : Int32) : am_Met g mx_Tm_fillLongest [.ref x0, .int x1, .int x2] σ ((f_Tm_fillLongest F σ x0 x1 x2).bind am_kV) := by
  refine am_Met.of (lv := [some (.ref x0), some (.int x1), some (.int x2), none, none, none, none, none, none]) (am_cc rfl (am_cc rfl (am_cc rfl am_c0))) (Nat.le_of_ble_eq_true rfl) rfl (by decide) ?_
  unfold f_Tm_fillLongest
  refine am_W.ck ?_
  refine aw_aload_n 0 (kk := ?_)
  refine aw_gA 7 0 27 (hw := wd_211) (kk := fun v1 => ?_)
  refine aw_iload_n 1 (kk := ?_)
  refine ac_PI (st := []) [.ref v1, .int x1] (ag_V 71 2 rc_Bl_lineCount wd_845 cal_Bl_lineCount wd_846 wd_847) cal_Bl_lineCount ⟨by decide, by decide⟩ (Nat.le_of_ble_eq_true rfl) (m_Bl_lineCount g F σ v1 x1) (fun v2 => ?_)
  refine aw_istore_n 3 (kk := ?_)
  refine aw_aload_n 0 (kk := ?_)
  refine aw_gA 7 0 27 (hw := wd_211) (kk := fun v3 => ?_)
  refine aw_iload_n 2 (kk := ?_)
  refine ac_PI (st := []) [.ref v3, .int x2] (ag_V 71 2 rc_Bl_lineCount wd_845 cal_Bl_lineCount wd_846 wd_847) cal_Bl_lineCount ⟨by decide, by decide⟩ (Nat.le_of_ble_eq_true rfl) (m_Bl_lineCount g F σ v3 x2) (fun v4 => ?_)
  refine aw_istore 4 (kk := ?_)
  refine aw_iconst 0 (v := 0) (kk := ?_)
  refine aw_istore 5 (kk := ?_)
  exact am_W.drop [true, true, true, true, true, true, false, false, false] (b_Tm_fillLongest_l22 F x0 x1 x2 v2 v4 (fun τ => f_Tm_fillLongest_j49 F x0 x1 x2 v2 v4 τ) (fun τ => am_W.drop [true, true, true, true, true, false, false, false, false] (b_Tm_fillLongest_j49 F x0 x1 x2 v2 v4 τ)) F 0 σ)
def f_Tm_pairLines_l29 (F : Nat) (x3 : Nat) (x4 : Int32) (k47 : am_S → Option (am_S)) : Nat → Int32 → am_S → Option (am_S)
  | 0, _, _ => none
  | n + 1, x6, σ =>
    if x4 ≤ x6 then
      k47 σ
    else
      (am_sI σ x3 x6 (-1)).bind fun σ6 =>
      f_Tm_pairLines_l29 F x3 x4 k47 n (x6 + 1) σ6
theorem b_Tm_pairLines_l29 {g : am_G} {σ0 : am_S} (F : Nat) (x0 : Nat) (x1 : Int32) (x2 : Int32) (x3 : Nat) (x4 : Int32) (x5 : Int32) (k47 : am_S → Option (am_S)) (h47 : ∀ (τ : am_S), am_W g mx_Tm_pairLines σ0 47 [some (.ref x0), some (.int x1), some (.int x2), some (.ref x3), some (.int x4), some (.int x5), none, none] [] τ (k47 τ) am_kV) : ∀ (n : Nat) (x6 : Int32) (σ : am_S), am_W g mx_Tm_pairLines σ0 29 [some (.ref x0), some (.int x1), some (.int x2), some (.ref x3), some (.int x4), some (.int x5), some (.int x6), none] [] σ (f_Tm_pairLines_l29 F x3 x4 k47 n x6 σ) am_kV := by
  intro n
  induction n with
  | zero =>
    intro x6 σ
    rw [f_Tm_pairLines_l29]
    exact am_W.none
  | succ n ih =>
    intro x6 σ
    rw [f_Tm_pairLines_l29]
    refine aw_iload 6 (kk := ?_)
    refine aw_iload 4 (kk := ?_)
    refine aw_icmp_ge 14 47 (kt := fun _ => ?_) (kf := fun _ => ?_)
    · exact am_W.drop [true, true, true, true, true, true, false, false] (h47 σ)
    · refine aw_aload_n 3 (kk := ?_)
      refine aw_iload 6 (kk := ?_)
      refine aw_iconst (-1) (v := (-1)) (kk := ?_)
      refine aw_sI (kk := fun σ6 => ?_)
      refine aw_iinc 6 1 (v := 1) (kk := ?_)
      refine aw_goto (-15) 29 (kk := ?_)
      exact am_W.drop [true, true, true, true, true, true, true, false] (ih (x6 + 1) σ6)
def f_Tm_pairLines_l53 (F : Nat) (x0 : Nat) (x1 : Int32) (x2 : Int32) (x3 : Nat) (x4 : Int32) (x5 : Int32)  : Nat → Int32 → Int32 → am_S → Option (am_S)
  | 0, _, _, _ => none
  | n + 1, x6, x7, σ =>
    if x4 ≤ x6 then
      some σ
    else
      if x5 ≤ x7 then
        some σ
      else
        (am_gA σ 7 0 x0).bind fun v7 =>
        (f_Bl_lineKind F σ v7 x1 x6).bind fun v8 =>
        (am_gA σ 7 0 x0).bind fun v9 =>
        (f_Bl_lineKind F σ v9 x2 x7).bind fun v10 =>
        if v8 = v10 then
          (am_sI σ x3 x6 x7).bind fun σ15 =>
          f_Tm_pairLines_l53 F x0 x1 x2 x3 x4 x5 n (x6 + 1) (x7 + 1) σ15
        else
          (am_gA σ 7 4 x0).bind fun v11 =>
          (am_lI σ .int v11 (((x6 + 1) * 201) + x7)).bind fun v12 =>
          (am_gA σ 7 4 x0).bind fun v13 =>
          (am_lI σ .int v13 (((x6 * 201) + x7) + 1)).bind fun v14 =>
          if v12 < v14 then
            f_Tm_pairLines_l53 F x0 x1 x2 x3 x4 x5 n x6 (x7 + 1) σ
          else
            f_Tm_pairLines_l53 F x0 x1 x2 x3 x4 x5 n (x6 + 1) x7 σ
theorem b_Tm_pairLines_l53 {g : am_G} {σ0 : am_S} (F : Nat) (x0 : Nat) (x1 : Int32) (x2 : Int32) (x3 : Nat) (x4 : Int32) (x5 : Int32)   : ∀ (n : Nat) (x6 : Int32) (x7 : Int32) (σ : am_S), am_W g mx_Tm_pairLines σ0 53 [some (.ref x0), some (.int x1), some (.int x2), some (.ref x3), some (.int x4), some (.int x5), some (.int x6), some (.int x7)] [] σ (f_Tm_pairLines_l53 F x0 x1 x2 x3 x4 x5 n x6 x7 σ) am_kV := by
  intro n
  induction n with
  | zero =>
    intro x6 x7 σ
    rw [f_Tm_pairLines_l53]
    exact am_W.none
  | succ n ih =>
    intro x6 x7 σ
    rw [f_Tm_pairLines_l53]
    refine aw_iload 6 (kk := ?_)
    refine aw_iload 4 (kk := ?_)
    refine aw_icmp_ge 95 152 (kt := fun _ => ?_) (kf := fun _ => ?_)
    · exact aw_vret
    · refine aw_iload 7 (kk := ?_)
      refine aw_iload 5 (kk := ?_)
      refine aw_icmp_ge 88 152 (kt := fun _ => ?_) (kf := fun _ => ?_)
      · exact aw_vret
      · refine aw_aload_n 0 (kk := ?_)
        refine aw_gA 7 0 27 (hw := wd_211) (kk := fun v7 => ?_)
        refine aw_iload_n 1 (kk := ?_)
        refine aw_iload 6 (kk := ?_)
        refine ac_PI (st := []) [.ref v7, .int x1, .int x6] (ag_V 97 2 rc_Bl_lineKind wd_853 cal_Bl_lineKind wd_747 wd_748) cal_Bl_lineKind ⟨by decide, by decide⟩ (Nat.le_of_ble_eq_true rfl) (m_Bl_lineKind g F σ v7 x1 x6) (fun v8 => ?_)
        refine aw_aload_n 0 (kk := ?_)
        refine aw_gA 7 0 27 (hw := wd_211) (kk := fun v9 => ?_)
        refine aw_iload_n 2 (kk := ?_)
        refine aw_iload 7 (kk := ?_)
        refine ac_PI (st := [.int v8]) [.ref v9, .int x2, .int x7] (ag_V 97 2 rc_Bl_lineKind wd_853 cal_Bl_lineKind wd_747 wd_748) cal_Bl_lineKind ⟨by decide, by decide⟩ (Nat.le_of_ble_eq_true rfl) (m_Bl_lineKind g F σ v9 x2 x7) (fun v10 => ?_)
        refine aw_icmp_ne 18 105 (kt := fun _ => ?_) (kf := fun _ => ?_)
        · refine aw_aload_n 0 (kk := ?_)
          refine aw_gA 7 4 12 (hw := wd_215) (kk := fun v11 => ?_)
          refine aw_iload 6 (kk := ?_)
          refine aw_iconst 1 (v := 1) (kk := ?_)
          refine aw_iadd (kk := ?_)
          refine aw_sipush 201 (v := 201) (kk := ?_)
          refine aw_imul (kk := ?_)
          refine aw_iload 7 (kk := ?_)
          refine aw_iadd (kk := ?_)
          refine aw_lI (kk := fun v12 => ?_)
          refine aw_aload_n 0 (kk := ?_)
          refine aw_gA 7 4 12 (hw := wd_215) (kk := fun v13 => ?_)
          refine aw_iload 6 (kk := ?_)
          refine aw_sipush 201 (v := 201) (kk := ?_)
          refine aw_imul (kk := ?_)
          refine aw_iload 7 (kk := ?_)
          refine aw_iadd (kk := ?_)
          refine aw_iconst 1 (v := 1) (kk := ?_)
          refine aw_iadd (kk := ?_)
          refine aw_lI (kk := fun v14 => ?_)
          refine aw_icmp_lt 9 146 (kt := fun _ => ?_) (kf := fun _ => ?_)
          · refine aw_iinc 7 1 (v := 1) (kk := ?_)
            refine aw_goto (-96) 53 (kk := ?_)
            exact am_W.drop [true, true, true, true, true, true, true, true] (ih x6 (x7 + 1) σ)
          · refine aw_iinc 6 1 (v := 1) (kk := ?_)
            refine aw_goto (-90) 53 (kk := ?_)
            exact am_W.drop [true, true, true, true, true, true, true, true] (ih (x6 + 1) x7 σ)
        · refine aw_aload_n 3 (kk := ?_)
          refine aw_iload 6 (kk := ?_)
          refine aw_iload 7 (kk := ?_)
          refine aw_sI (kk := fun σ15 => ?_)
          refine aw_iinc 6 1 (v := 1) (kk := ?_)
          refine aw_iinc 7 1 (v := 1) (kk := ?_)
          refine aw_goto (-49) 53 (kk := ?_)
          exact am_W.drop [true, true, true, true, true, true, true, true] (ih (x6 + 1) (x7 + 1) σ15)
def f_Tm_pairLines_j47 (F : Nat) (x0 : Nat) (x1 : Int32) (x2 : Int32) (x3 : Nat) (x4 : Int32) (x5 : Int32)  (σ : am_S) : Option (am_S) :=
  f_Tm_pairLines_l53 F x0 x1 x2 x3 x4 x5 F 0 0 σ
theorem b_Tm_pairLines_j47 {g : am_G} {σ0 : am_S} (F : Nat) (x0 : Nat) (x1 : Int32) (x2 : Int32) (x3 : Nat) (x4 : Int32) (x5 : Int32)   (σ : am_S) : am_W g mx_Tm_pairLines σ0 47 [some (.ref x0), some (.int x1), some (.int x2), some (.ref x3), some (.int x4), some (.int x5), none, none] [] σ (f_Tm_pairLines_j47 F x0 x1 x2 x3 x4 x5 σ) am_kV := by
  unfold f_Tm_pairLines_j47
  refine aw_iconst 0 (v := 0) (kk := ?_)
  refine aw_istore 6 (kk := ?_)
  refine aw_iconst 0 (v := 0) (kk := ?_)
  refine aw_istore 7 (kk := ?_)
  exact am_W.drop [true, true, true, true, true, true, true, true] (b_Tm_pairLines_l53 F x0 x1 x2 x3 x4 x5 F 0 0 σ)
def f_Tm_pairLines (F : Nat) (σ : am_S) (x0 : Nat) (x1 : Int32) (x2 : Int32) (x3 : Nat) : Option (am_S) :=
  am_ck σ 7 x0 (
  (am_gA σ 7 0 x0).bind fun v1 =>
  (f_Bl_lineCount F σ v1 x1).bind fun v2 =>
  (am_gA σ 7 0 x0).bind fun v3 =>
  (f_Bl_lineCount F σ v3 x2).bind fun v4 =>
  (f_Tm_fillLongest F σ x0 x1 x2).bind fun σ5 =>
  f_Tm_pairLines_l29 F x3 v2 (fun τ => f_Tm_pairLines_j47 F x0 x1 x2 x3 v2 v4 τ) F 0 σ5)
theorem rc_Tm_pairLines {F : Nat} {σ : am_S} {x0 : Nat} {x1 : Int32} {x2 : Int32} {x3 : Nat} (h : (f_Tm_pairLines F σ x0 x1 x2 x3).isSome = true) : ∃ fs, σ.2.2 x0 = some (.inr (7, fs)) := am_ck_some h
theorem m_Tm_pairLines (g : am_G) (F : Nat) (σ : am_S) (x0 : Nat) (x1 : Int32) (x2 : Int32) (x3 : Nat) : am_Met g mx_Tm_pairLines [.ref x0, .int x1, .int x2, .ref x3] σ ((f_Tm_pairLines F σ x0 x1 x2 x3).bind am_kV) := by
  refine am_Met.of (lv := [some (.ref x0), some (.int x1), some (.int x2), some (.ref x3), none, none, none, none]) (am_cc rfl (am_cc rfl (am_cc rfl (am_cc rfl am_c0)))) (Nat.le_of_ble_eq_true rfl) rfl (by decide) ?_
  unfold f_Tm_pairLines
  refine am_W.ck ?_
  refine aw_aload_n 0 (kk := ?_)
  refine aw_gA 7 0 27 (hw := wd_211) (kk := fun v1 => ?_)
  refine aw_iload_n 1 (kk := ?_)
  refine ac_PI (st := []) [.ref v1, .int x1] (ag_V 71 2 rc_Bl_lineCount wd_845 cal_Bl_lineCount wd_846 wd_847) cal_Bl_lineCount ⟨by decide, by decide⟩ (Nat.le_of_ble_eq_true rfl) (m_Bl_lineCount g F σ v1 x1) (fun v2 => ?_)
  refine aw_istore 4 (kk := ?_)
  refine aw_aload_n 0 (kk := ?_)
  refine aw_gA 7 0 27 (hw := wd_211) (kk := fun v3 => ?_)
  refine aw_iload_n 2 (kk := ?_)
  refine ac_PI (st := []) [.ref v3, .int x2] (ag_V 71 2 rc_Bl_lineCount wd_845 cal_Bl_lineCount wd_846 wd_847) cal_Bl_lineCount ⟨by decide, by decide⟩ (Nat.le_of_ble_eq_true rfl) (m_Bl_lineCount g F σ v3 x2) (fun v4 => ?_)
  refine aw_istore 5 (kk := ?_)
  refine aw_aload_n 0 (kk := ?_)
  refine aw_iload_n 1 (kk := ?_)
  refine aw_iload_n 2 (kk := ?_)
  refine ac_V (st := []) [.ref x0, .int x1, .int x2] (ag_V 94 7 rc_Tm_fillLongest wd_849 cal_Tm_fillLongest wd_851 ws_33) cal_Tm_fillLongest ⟨by decide, by decide⟩ (Nat.le_of_ble_eq_true rfl) (m_Tm_fillLongest g F σ x0 x1 x2) (fun σ5 => ?_)
  refine aw_iconst 0 (v := 0) (kk := ?_)
  refine aw_istore 6 (kk := ?_)
  exact am_W.drop [true, true, true, true, true, true, true, false] (b_Tm_pairLines_l29 F x0 x1 x2 x3 v2 v4 (fun τ => f_Tm_pairLines_j47 F x0 x1 x2 x3 v2 v4 τ) (fun τ => am_W.drop [true, true, true, true, true, true, false, false] (b_Tm_pairLines_j47 F x0 x1 x2 x3 v2 v4 τ)) F 0 σ5)
def f_Pa_reachTo (F : Nat) (σ : am_S) (x0 : Nat) (x1 : Int32) : Option (am_S) :=
  am_ck σ 8 x0 (
  (am_pI σ 8 3 x0 x1).bind fun σ1 =>
  some σ1)
theorem rc_Pa_reachTo {F : Nat} {σ : am_S} {x0 : Nat} {x1 : Int32} (h : (f_Pa_reachTo F σ x0 x1).isSome = true) : ∃ fs, σ.2.2 x0 = some (.inr (8, fs)) := am_ck_some h
theorem m_Pa_reachTo (g : am_G) (F : Nat) (σ : am_S) (x0 : Nat) (x1 : Int32) : am_Met g mx_Pa_reachTo [.ref x0, .int x1] σ ((f_Pa_reachTo F σ x0 x1).bind am_kV) := by
  refine am_Met.of (lv := [some (.ref x0), some (.int x1)]) (am_cc rfl (am_cc rfl am_c0)) (Nat.le_of_ble_eq_true rfl) rfl (by decide) ?_
  unfold f_Pa_reachTo
  refine am_W.ck ?_
  refine aw_aload_n 0 (kk := ?_)
  refine aw_iload_n 1 (kk := ?_)
  refine aw_pI 8 3 20 (hw := wd_201) (kk := fun σ1 => ?_)
  exact aw_vret
def f_Pa_isAs_l27 (σ : am_S) (F : Nat) (x0 : Nat) (x1 : Nat) (x2 : Int32)  : Nat → Int32 → Option (Int32)
  | 0, _ => none
  | n + 1, x3 =>
    if x2 ≤ x3 then
      some 1
    else
      (am_gA σ 8 0 x0).bind fun v5 =>
      (am_gI σ 8 1 x0).bind fun v6 =>
      (am_gI σ 8 2 x0).bind fun v7 =>
      (f_Bl_lineKind F σ v5 v6 (v7 + x3)).bind fun v8 =>
      (am_gA σ 8 0 x0).bind fun v9 =>
      (am_gI σ 8 1 x1).bind fun v10 =>
      (am_gI σ 8 2 x1).bind fun v11 =>
      (f_Bl_lineKind F σ v9 v10 (v11 + x3)).bind fun v12 =>
      if v8 = v12 then
        f_Pa_isAs_l27 σ F x0 x1 x2 n (x3 + 1)
      else
        some 0
theorem b_Pa_isAs_l27 {g : am_G} {σ0 σ : am_S} (F : Nat) (x0 : Nat) (x1 : Nat) (x2 : Int32)   : ∀ (n : Nat) (x3 : Int32), am_W g mx_Pa_isAs σ0 27 [some (.ref x0), some (.ref x1), some (.int x2), some (.int x3)] [] σ (f_Pa_isAs_l27 σ F x0 x1 x2 n x3) (am_kPI σ) := by
  intro n
  induction n with
  | zero =>
    intro x3
    rw [f_Pa_isAs_l27]
    exact am_W.none
  | succ n ih =>
    intro x3
    rw [f_Pa_isAs_l27]
    refine aw_iload_n 3 (kk := ?_)
    refine aw_iload_n 2 (kk := ?_)
    refine aw_icmp_ge 48 77 (kt := fun _ => ?_) (kf := fun _ => ?_)
    · refine aw_iconst 1 (v := 1) (kk := ?_)
      exact aw_zretPL (by decide)
    · refine aw_aload_n 0 (kk := ?_)
      refine aw_gA 8 0 7 (hw := wd_198) (kk := fun v5 => ?_)
      refine aw_aload_n 0 (kk := ?_)
      refine aw_gI 8 1 13 (hw := wd_199) (kk := fun v6 => ?_)
      refine aw_aload_n 0 (kk := ?_)
      refine aw_gI 8 2 17 (hw := wd_200) (kk := fun v7 => ?_)
      refine aw_iload_n 3 (kk := ?_)
      refine aw_iadd (kk := ?_)
      refine ac_PI (st := []) [.ref v5, .int v6, .int (v7 + x3)] (ag_V 33 2 rc_Bl_lineKind wd_871 cal_Bl_lineKind wd_747 wd_748) cal_Bl_lineKind ⟨by decide, by decide⟩ (Nat.le_of_ble_eq_true rfl) (m_Bl_lineKind g F σ v5 v6 (v7 + x3)) (fun v8 => ?_)
      refine aw_aload_n 0 (kk := ?_)
      refine aw_gA 8 0 7 (hw := wd_198) (kk := fun v9 => ?_)
      refine aw_aload_n 1 (kk := ?_)
      refine aw_gI 8 1 13 (hw := wd_199) (kk := fun v10 => ?_)
      refine aw_aload_n 1 (kk := ?_)
      refine aw_gI 8 2 17 (hw := wd_200) (kk := fun v11 => ?_)
      refine aw_iload_n 3 (kk := ?_)
      refine aw_iadd (kk := ?_)
      refine ac_PI (st := [.int v8]) [.ref v9, .int v10, .int (v11 + x3)] (ag_V 33 2 rc_Bl_lineKind wd_871 cal_Bl_lineKind wd_747 wd_748) cal_Bl_lineKind ⟨by decide, by decide⟩ (Nat.le_of_ble_eq_true rfl) (m_Bl_lineKind g F σ v9 v10 (v11 + x3)) (fun v12 => ?_)
      refine aw_icmp_eq 5 71 (kt := fun _ => ?_) (kf := fun _ => ?_)
      · refine aw_iinc 3 1 (v := 1) (kk := ?_)
        refine aw_goto (-47) 27 (kk := ?_)
        exact am_W.drop [true, true, true, true] (ih (x3 + 1))
      · refine aw_iconst 0 (v := 0) (kk := ?_)
        exact aw_zretPL (by decide)
def f_Pa_isAs (F : Nat) (σ : am_S) (x0 : Nat) (x1 : Nat) : Option (Int32) :=
  am_ck σ 8 x0 (
  (am_gI σ 8 3 x0).bind fun v1 =>
  (am_gI σ 8 2 x0).bind fun v2 =>
  (am_gI σ 8 3 x1).bind fun v3 =>
  (am_gI σ 8 2 x1).bind fun v4 =>
  if (v1 - v2) = (v3 - v4) then
    f_Pa_isAs_l27 σ F x0 x1 (v1 - v2) F 0
  else
    some 0)
theorem rc_Pa_isAs {F : Nat} {σ : am_S} {x0 : Nat} {x1 : Nat} (h : (f_Pa_isAs F σ x0 x1).isSome = true) : ∃ fs, σ.2.2 x0 = some (.inr (8, fs)) := am_ck_some h
theorem m_Pa_isAs (g : am_G) (F : Nat) (σ : am_S) (x0 : Nat) (x1 : Nat) : am_Met g mx_Pa_isAs [.ref x0, .ref x1] σ ((f_Pa_isAs F σ x0 x1).bind (am_kPI σ)) := by
  refine am_Met.of (lv := [some (.ref x0), some (.ref x1), none, none]) (am_cc rfl (am_cc rfl am_c0)) (Nat.le_of_ble_eq_true rfl) rfl (by decide) ?_
  unfold f_Pa_isAs
  refine am_W.ck ?_
  refine aw_aload_n 0 (kk := ?_)
  refine aw_gI 8 3 20 (hw := wd_201) (kk := fun v1 => ?_)
  refine aw_aload_n 0 (kk := ?_)
  refine aw_gI 8 2 17 (hw := wd_200) (kk := fun v2 => ?_)
  refine aw_isub (kk := ?_)
  refine aw_istore_n 2 (kk := ?_)
  refine aw_iload_n 2 (kk := ?_)
  refine aw_aload_n 1 (kk := ?_)
  refine aw_gI 8 3 20 (hw := wd_201) (kk := fun v3 => ?_)
  refine aw_aload_n 1 (kk := ?_)
  refine aw_gI 8 2 17 (hw := wd_200) (kk := fun v4 => ?_)
  refine aw_isub (kk := ?_)
  refine aw_icmp_eq 5 25 (kt := fun _ => ?_) (kf := fun _ => ?_)
  · refine aw_iconst 0 (v := 0) (kk := ?_)
    refine aw_istore_n 3 (kk := ?_)
    exact am_W.drop [true, true, true, true] (b_Pa_isAs_l27 F x0 x1 (v1 - v2) F 0)
  · refine aw_iconst 0 (v := 0) (kk := ?_)
    exact aw_zretPL (by decide)
def f_Pa_firstByte (F : Nat) (σ : am_S) (x0 : Nat) : Option (Int32) :=
  am_ck σ 8 x0 (
  (am_gA σ 8 0 x0).bind fun v1 =>
  (am_gI σ 8 1 x0).bind fun v2 =>
  (am_gI σ 8 2 x0).bind fun v3 =>
  (f_Bl_lineStart F σ v1 v2 v3).bind fun v4 =>
  some v4)
theorem rc_Pa_firstByte {F : Nat} {σ : am_S} {x0 : Nat} (h : (f_Pa_firstByte F σ x0).isSome = true) : ∃ fs, σ.2.2 x0 = some (.inr (8, fs)) := am_ck_some h
theorem m_Pa_firstByte (g : am_G) (F : Nat) (σ : am_S) (x0 : Nat) : am_Met g mx_Pa_firstByte [.ref x0] σ ((f_Pa_firstByte F σ x0).bind (am_kPI σ)) := by
  refine am_Met.of (lv := [some (.ref x0)]) (am_cc rfl am_c0) (Nat.le_of_ble_eq_true rfl) rfl (by decide) ?_
  unfold f_Pa_firstByte
  refine am_W.ck ?_
  refine aw_aload_n 0 (kk := ?_)
  refine aw_gA 8 0 7 (hw := wd_198) (kk := fun v1 => ?_)
  refine aw_aload_n 0 (kk := ?_)
  refine aw_gI 8 1 13 (hw := wd_199) (kk := fun v2 => ?_)
  refine aw_aload_n 0 (kk := ?_)
  refine aw_gI 8 2 17 (hw := wd_200) (kk := fun v3 => ?_)
  refine ac_PI (st := []) [.ref v1, .int v2, .int v3] (ag_V 29 2 rc_Bl_lineStart wd_876 cal_Bl_lineStart wd_877 wd_878) cal_Bl_lineStart ⟨by decide, by decide⟩ (Nat.le_of_ble_eq_true rfl) (m_Bl_lineStart g F σ v1 v2 v3) (fun v4 => ?_)
  exact aw_iretP
def f_Pa_byteBehind (F : Nat) (σ : am_S) (x0 : Nat) : Option (Int32) :=
  am_ck σ 8 x0 (
  (am_gA σ 8 0 x0).bind fun v1 =>
  (am_gI σ 8 1 x0).bind fun v2 =>
  (am_gI σ 8 3 x0).bind fun v3 =>
  (f_Bl_lineStart F σ v1 v2 v3).bind fun v4 =>
  some v4)
theorem rc_Pa_byteBehind {F : Nat} {σ : am_S} {x0 : Nat} (h : (f_Pa_byteBehind F σ x0).isSome = true) : ∃ fs, σ.2.2 x0 = some (.inr (8, fs)) := am_ck_some h
theorem m_Pa_byteBehind (g : am_G) (F : Nat) (σ : am_S) (x0 : Nat) : am_Met g mx_Pa_byteBehind [.ref x0] σ ((f_Pa_byteBehind F σ x0).bind (am_kPI σ)) := by
  refine am_Met.of (lv := [some (.ref x0)]) (am_cc rfl am_c0) (Nat.le_of_ble_eq_true rfl) rfl (by decide) ?_
  unfold f_Pa_byteBehind
  refine am_W.ck ?_
  refine aw_aload_n 0 (kk := ?_)
  refine aw_gA 8 0 7 (hw := wd_198) (kk := fun v1 => ?_)
  refine aw_aload_n 0 (kk := ?_)
  refine aw_gI 8 1 13 (hw := wd_199) (kk := fun v2 => ?_)
  refine aw_aload_n 0 (kk := ?_)
  refine aw_gI 8 3 20 (hw := wd_201) (kk := fun v3 => ?_)
  refine ac_PI (st := []) [.ref v1, .int v2, .int v3] (ag_V 29 2 rc_Bl_lineStart wd_876 cal_Bl_lineStart wd_877 wd_878) cal_Bl_lineStart ⟨by decide, by decide⟩ (Nat.le_of_ble_eq_true rfl) (m_Bl_lineStart g F σ v1 v2 v3) (fun v4 => ?_)
  exact aw_iretP
def f_Tm_addBytes (F : Nat) (σ : am_S) (x0 : Nat) (x1 : Int32) (x2 : Int32) : Option (am_S) :=
  am_ck σ 7 x0 (
  (am_gI σ 7 8 x0).bind fun v1 =>
  if ((v1 + x2) - x1) ≤ 65536 then
    (am_gA σ 7 0 x0).bind fun v2 =>
    (f_Bl_bytes F σ v2).bind fun v3 =>
    (am_gA σ 7 7 x0).bind fun v4 =>
    (am_gI σ 7 8 x0).bind fun v5 =>
    (am_cp σ .byte v3 x1 v4 v5 (x2 - x1)).bind fun σ6 =>
    (am_gI σ6 7 8 x0).bind fun v7 =>
    (am_pI σ6 7 8 x0 (v7 + (x2 - x1))).bind fun σ8 =>
    some σ8
  else
    (am_pZ σ 7 10 x0 1).bind fun σ9 =>
    some σ9)
theorem rc_Tm_addBytes {F : Nat} {σ : am_S} {x0 : Nat} {x1 : Int32} {x2 : Int32} (h : (f_Tm_addBytes F σ x0 x1 x2).isSome = true) : ∃ fs, σ.2.2 x0 = some (.inr (7, fs)) := am_ck_some h
theorem m_Tm_addBytes (g : am_G) (F : Nat) (σ : am_S) (x0 : Nat) (x1 : Int32) (x2 : Int32) : am_Met g mx_Tm_addBytes [.ref x0, .int x1, .int x2] σ ((f_Tm_addBytes F σ x0 x1 x2).bind am_kV) := by
  refine am_Met.of (lv := [some (.ref x0), some (.int x1), some (.int x2)]) (am_cc rfl (am_cc rfl (am_cc rfl am_c0))) (Nat.le_of_ble_eq_true rfl) rfl (by decide) ?_
  unfold f_Tm_addBytes
  refine am_W.ck ?_
  refine aw_aload_n 0 (kk := ?_)
  refine aw_gI 7 8 46 (hw := wd_219) (kk := fun v1 => ?_)
  refine aw_iload_n 2 (kk := ?_)
  refine aw_iadd (kk := ?_)
  refine aw_iload_n 1 (kk := ?_)
  refine aw_isub (kk := ?_)
  refine aw_ldc 22 (v := 65536) (hw := wd_191) (kk := ?_)
  refine aw_icmp_le 9 19 (kt := fun _ => ?_) (kf := fun _ => ?_)
  · refine aw_aload_n 0 (kk := ?_)
    refine aw_gA 7 0 27 (hw := wd_211) (kk := fun v2 => ?_)
    refine ac_PA (st := []) [.ref v2] (ag_V 156 2 rc_Bl_bytes wd_888 cal_Bl_bytes wd_889 wd_890) cal_Bl_bytes ⟨by decide, by decide⟩ (Nat.le_of_ble_eq_true rfl) (m_Bl_bytes g F σ v2) (fun v3 => ?_)
    refine aw_iload_n 1 (kk := ?_)
    refine aw_aload_n 0 (kk := ?_)
    refine aw_gA 7 7 23 (hw := wd_218) (kk := fun v4 => ?_)
    refine aw_aload_n 0 (kk := ?_)
    refine aw_gI 7 8 46 (hw := wd_219) (kk := fun v5 => ?_)
    refine aw_iload_n 2 (kk := ?_)
    refine aw_iload_n 1 (kk := ?_)
    refine aw_isub (kk := ?_)
    refine aw_cp 160 .byte (hw := wd_892) (hw2 := wd_505) (hw3 := wd_504) (hw4 := wd_19) (hr := Nat.le_of_ble_eq_true rfl) (kk := fun σ6 => ?_)
    refine aw_aload_n 0 (kk := ?_)
    refine aw_dup (kk := ?_)
    refine aw_gI 7 8 46 (hw := wd_219) (kk := fun v7 => ?_)
    refine aw_iload_n 2 (kk := ?_)
    refine aw_iload_n 1 (kk := ?_)
    refine aw_isub (kk := ?_)
    refine aw_iadd (kk := ?_)
    refine aw_pI 7 8 46 (hw := wd_219) (kk := fun σ8 => ?_)
    exact aw_vret
  · refine aw_aload_n 0 (kk := ?_)
    refine aw_iconst 1 (v := 1) (kk := ?_)
    refine aw_pZ 7 10 81 (hw := wd_221) (kk := fun σ9 => ?_)
    exact aw_vret
def f_Tm_addByte (F : Nat) (σ : am_S) (x0 : Nat) (x1 : Int32) : Option (am_S) :=
  am_ck σ 7 x0 (
  (am_gI σ 7 8 x0).bind fun v1 =>
  if v1 < 65536 then
    (am_gA σ 7 7 x0).bind fun v2 =>
    (am_gI σ 7 8 x0).bind fun v3 =>
    (am_sB σ v2 v3 (am_i2b x1)).bind fun σ4 =>
    (am_gI σ4 7 8 x0).bind fun v5 =>
    (am_pI σ4 7 8 x0 (v5 + 1)).bind fun σ6 =>
    some σ6
  else
    (am_pZ σ 7 10 x0 1).bind fun σ7 =>
    some σ7)
theorem rc_Tm_addByte {F : Nat} {σ : am_S} {x0 : Nat} {x1 : Int32} (h : (f_Tm_addByte F σ x0 x1).isSome = true) : ∃ fs, σ.2.2 x0 = some (.inr (7, fs)) := am_ck_some h
theorem m_Tm_addByte (g : am_G) (F : Nat) (σ : am_S) (x0 : Nat) (x1 : Int32) : am_Met g mx_Tm_addByte [.ref x0, .int x1] σ ((f_Tm_addByte F σ x0 x1).bind am_kV) := by
  refine am_Met.of (lv := [some (.ref x0), some (.int x1)]) (am_cc rfl (am_cc rfl am_c0)) (Nat.le_of_ble_eq_true rfl) rfl (by decide) ?_
  unfold f_Tm_addByte
  refine am_W.ck ?_
  refine aw_aload_n 0 (kk := ?_)
  refine aw_gI 7 8 46 (hw := wd_219) (kk := fun v1 => ?_)
  refine aw_ldc 22 (v := 65536) (hw := wd_191) (kk := ?_)
  refine aw_icmp_lt 9 15 (kt := fun _ => ?_) (kf := fun _ => ?_)
  · refine aw_aload_n 0 (kk := ?_)
    refine aw_gA 7 7 23 (hw := wd_218) (kk := fun v2 => ?_)
    refine aw_aload_n 0 (kk := ?_)
    refine aw_gI 7 8 46 (hw := wd_219) (kk := fun v3 => ?_)
    refine aw_iload_n 1 (kk := ?_)
    refine aw_i2b (kk := ?_)
    refine aw_sB (kk := fun σ4 => ?_)
    refine aw_aload_n 0 (kk := ?_)
    refine aw_dup (kk := ?_)
    refine aw_gI 7 8 46 (hw := wd_219) (kk := fun v5 => ?_)
    refine aw_iconst 1 (v := 1) (kk := ?_)
    refine aw_iadd (kk := ?_)
    refine aw_pI 7 8 46 (hw := wd_219) (kk := fun σ6 => ?_)
    exact aw_vret
  · refine aw_aload_n 0 (kk := ?_)
    refine aw_iconst 1 (v := 1) (kk := ?_)
    refine aw_pZ 7 10 81 (hw := wd_221) (kk := fun σ7 => ?_)
    exact aw_vret
def f_Tm_addMark_l2 (F : Nat) (x0 : Nat) (x1 : Nat)  : Nat → Int32 → am_S → Option (am_S)
  | 0, _, _ => none
  | n + 1, x2, σ =>
    (f_St_length σ x1).bind fun v1 =>
    if v1 ≤ x2 then
      some σ
    else
      (f_St_charAt σ x1 x2).bind fun v2 =>
      (f_Tm_addByte F σ x0 v2).bind fun σ3 =>
      f_Tm_addMark_l2 F x0 x1 n (x2 + 1) σ3
theorem b_Tm_addMark_l2 {g : am_G} {σ0 : am_S} (F : Nat) (x0 : Nat) (x1 : Nat)   : ∀ (n : Nat) (x2 : Int32) (σ : am_S), am_W g mx_Tm_addMark σ0 2 [some (.ref x0), some (.ref x1), some (.int x2)] [] σ (f_Tm_addMark_l2 F x0 x1 n x2 σ) am_kV := by
  intro n
  induction n with
  | zero =>
    intro x2 σ
    rw [f_Tm_addMark_l2]
    exact am_W.none
  | succ n ih =>
    intro x2 σ
    rw [f_Tm_addMark_l2]
    refine aw_iload_n 2 (kk := ?_)
    refine aw_aload_n 1 (kk := ?_)
    refine ac_PI [.ref x1] (ag_St_length 148 (hw := wd_898)) cal_St_length ⟨by decide, by decide⟩ (Nat.le_of_ble_eq_true rfl) (m_St_length _ _ x1) (fun v1 => ?_)
    refine aw_icmp_ge 18 25 (kt := fun _ => ?_) (kf := fun _ => ?_)
    · exact aw_vret
    · refine aw_aload_n 0 (kk := ?_)
      refine aw_aload_n 1 (kk := ?_)
      refine aw_iload_n 2 (kk := ?_)
      refine ac_PI [.ref x1, .int x2] (ag_St_charAt 152 (hw := wd_908)) cal_St_charAt ⟨by decide, by decide⟩ (Nat.le_of_ble_eq_true rfl) (m_St_charAt _ _ x1 x2) (fun v2 => ?_)
      refine ac_V (st := []) [.ref x0, .int v2] (ag_V 145 7 rc_Tm_addByte wd_946 cal_Tm_addByte wd_948 ws_38) cal_Tm_addByte ⟨by decide, by decide⟩ (Nat.le_of_ble_eq_true rfl) (m_Tm_addByte g F σ x0 v2) (fun σ3 => ?_)
      refine aw_iinc 2 1 (v := 1) (kk := ?_)
      refine aw_goto (-20) 2 (kk := ?_)
      exact am_W.drop [true, true, true] (ih (x2 + 1) σ3)
def f_Tm_addMark (F : Nat) (σ : am_S) (x0 : Nat) (x1 : Nat) : Option (am_S) :=
  am_ck σ 7 x0 (
  f_Tm_addMark_l2 F x0 x1 F 0 σ)
theorem rc_Tm_addMark {F : Nat} {σ : am_S} {x0 : Nat} {x1 : Nat} (h : (f_Tm_addMark F σ x0 x1).isSome = true) : ∃ fs, σ.2.2 x0 = some (.inr (7, fs)) := am_ck_some h
theorem m_Tm_addMark (g : am_G) (F : Nat) (σ : am_S) (x0 : Nat) (x1 : Nat) : am_Met g mx_Tm_addMark [.ref x0, .ref x1] σ ((f_Tm_addMark F σ x0 x1).bind am_kV) := by
  refine am_Met.of (lv := [some (.ref x0), some (.ref x1), none]) (am_cc rfl (am_cc rfl am_c0)) (Nat.le_of_ble_eq_true rfl) rfl (by decide) ?_
  unfold f_Tm_addMark
  refine am_W.ck ?_
  refine aw_iconst 0 (v := 0) (kk := ?_)
  refine aw_istore_n 2 (kk := ?_)
  exact am_W.drop [true, true, true] (b_Tm_addMark_l2 F x0 x1 F 0 σ)
def f_Tm_endLine (F : Nat) (σ : am_S) (x0 : Nat) : Option (am_S) :=
  am_ck σ 7 x0 (
  (am_gI σ 7 8 x0).bind fun v1 =>
  if v1 ≤ 0 then
    some σ
  else
    (am_gA σ 7 7 x0).bind fun v2 =>
    (am_gI σ 7 8 x0).bind fun v3 =>
    (am_lI σ .byte v2 (v3 - 1)).bind fun v4 =>
    if v4 = 10 then
      some σ
    else
      (f_Tm_addByte F σ x0 10).bind fun σ5 =>
      some σ5)
theorem rc_Tm_endLine {F : Nat} {σ : am_S} {x0 : Nat} (h : (f_Tm_endLine F σ x0).isSome = true) : ∃ fs, σ.2.2 x0 = some (.inr (7, fs)) := am_ck_some h
theorem m_Tm_endLine (g : am_G) (F : Nat) (σ : am_S) (x0 : Nat) : am_Met g mx_Tm_endLine [.ref x0] σ ((f_Tm_endLine F σ x0).bind am_kV) := by
  refine am_Met.of (lv := [some (.ref x0)]) (am_cc rfl am_c0) (Nat.le_of_ble_eq_true rfl) rfl (by decide) ?_
  unfold f_Tm_endLine
  refine am_W.ck ?_
  refine aw_aload_n 0 (kk := ?_)
  refine aw_gI 7 8 46 (hw := wd_219) (kk := fun v1 => ?_)
  refine aw_if_le 25 29 (kt := fun _ => ?_) (kf := fun _ => ?_)
  · exact aw_vret
  · refine aw_aload_n 0 (kk := ?_)
    refine aw_gA 7 7 23 (hw := wd_218) (kk := fun v2 => ?_)
    refine aw_aload_n 0 (kk := ?_)
    refine aw_gI 7 8 46 (hw := wd_219) (kk := fun v3 => ?_)
    refine aw_iconst 1 (v := 1) (kk := ?_)
    refine aw_isub (kk := ?_)
    refine aw_lB (kk := fun v4 => ?_)
    refine aw_bipush 10 (v := 10) (kk := ?_)
    refine aw_icmp_eq 9 29 (kt := fun _ => ?_) (kf := fun _ => ?_)
    · exact aw_vret
    · refine aw_aload_n 0 (kk := ?_)
      refine aw_bipush 10 (v := 10) (kk := ?_)
      refine ac_V (st := []) [.ref x0, .int 10] (ag_V 145 7 rc_Tm_addByte wd_946 cal_Tm_addByte wd_948 ws_38) cal_Tm_addByte ⟨by decide, by decide⟩ (Nat.le_of_ble_eq_true rfl) (m_Tm_addByte g F σ x0 10) (fun σ5 => ?_)
      exact aw_vret
def f_Tm_addPart_j63 (F : Nat) (x0 : Nat)  (σ : am_S) : Option (am_S) :=
  (am_gA σ 7 2 x0).bind fun v7 =>
  (f_Pa_firstByte F σ v7).bind fun v8 =>
  (am_gA σ 7 2 x0).bind fun v9 =>
  (f_Pa_byteBehind F σ v9).bind fun v10 =>
  (f_Tm_addBytes F σ x0 v8 v10).bind fun σ11 =>
  some σ11
theorem b_Tm_addPart_j63 {g : am_G} {σ0 : am_S} (F : Nat) (x0 : Nat)   (σ : am_S) : am_W g mx_Tm_addPart σ0 63 [some (.ref x0)] [] σ (f_Tm_addPart_j63 F x0 σ) am_kV := by
  unfold f_Tm_addPart_j63
  refine aw_aload_n 0 (kk := ?_)
  refine aw_aload_n 0 (kk := ?_)
  refine aw_gA 7 2 40 (hw := wd_213) (kk := fun v7 => ?_)
  refine ac_PI (st := [.ref x0]) [.ref v7] (ag_V 129 8 rc_Pa_firstByte wd_872 cal_Pa_firstByte wd_873 wd_874) cal_Pa_firstByte ⟨by decide, by decide⟩ (Nat.le_of_ble_eq_true rfl) (m_Pa_firstByte g F σ v7) (fun v8 => ?_)
  refine aw_aload_n 0 (kk := ?_)
  refine aw_gA 7 2 40 (hw := wd_213) (kk := fun v9 => ?_)
  refine ac_PI (st := [.int v8, .ref x0]) [.ref v9] (ag_V 112 8 rc_Pa_byteBehind wd_880 cal_Pa_byteBehind wd_881 wd_882) cal_Pa_byteBehind ⟨by decide, by decide⟩ (Nat.le_of_ble_eq_true rfl) (m_Pa_byteBehind g F σ v9) (fun v10 => ?_)
  refine ac_V (st := []) [.ref x0, .int v8, .int v10] (ag_V 90 7 rc_Tm_addBytes wd_884 cal_Tm_addBytes wd_886 ws_36) cal_Tm_addBytes ⟨by decide, by decide⟩ (Nat.le_of_ble_eq_true rfl) (m_Tm_addBytes g F σ x0 v8 v10) (fun σ11 => ?_)
  refine aw_goto 70 151 (kk := ?_)
  exact aw_vret
def f_Tm_addPart (F : Nat) (σ : am_S) (x0 : Nat) : Option (am_S) :=
  am_ck σ 7 x0 (
  (am_gA σ 7 2 x0).bind fun v1 =>
  (am_gA σ 7 1 x0).bind fun v2 =>
  (f_Pa_isAs F σ v1 v2).bind fun v3 =>
  if v3 = 0 then
    (am_gA σ 7 3 x0).bind fun v4 =>
    (am_gA σ 7 1 x0).bind fun v5 =>
    (f_Pa_isAs F σ v4 v5).bind fun v6 =>
    if v6 = 0 then
      (am_gA σ 7 3 x0).bind fun v12 =>
      (am_gA σ 7 2 x0).bind fun v13 =>
      (f_Pa_isAs F σ v12 v13).bind fun v14 =>
      if v14 = 0 then
        (am_pZ σ 7 9 x0 1).bind fun σ15 =>
        (f_Tm_addMark F σ15 x0 2).bind fun σ16 =>
        (am_gA σ16 7 2 x0).bind fun v17 =>
        (f_Pa_firstByte F σ16 v17).bind fun v18 =>
        (am_gA σ16 7 2 x0).bind fun v19 =>
        (f_Pa_byteBehind F σ16 v19).bind fun v20 =>
        (f_Tm_addBytes F σ16 x0 v18 v20).bind fun σ21 =>
        (f_Tm_endLine F σ21 x0).bind fun σ22 =>
        (f_Tm_addMark F σ22 x0 3).bind fun σ23 =>
        (am_gA σ23 7 3 x0).bind fun v24 =>
        (f_Pa_firstByte F σ23 v24).bind fun v25 =>
        (am_gA σ23 7 3 x0).bind fun v26 =>
        (f_Pa_byteBehind F σ23 v26).bind fun v27 =>
        (f_Tm_addBytes F σ23 x0 v25 v27).bind fun σ28 =>
        (f_Tm_endLine F σ28 x0).bind fun σ29 =>
        (f_Tm_addMark F σ29 x0 4).bind fun σ30 =>
        some σ30
      else
        f_Tm_addPart_j63 F x0 σ
    else
      f_Tm_addPart_j63 F x0 σ
  else
    (am_gA σ 7 3 x0).bind fun v31 =>
    (f_Pa_firstByte F σ v31).bind fun v32 =>
    (am_gA σ 7 3 x0).bind fun v33 =>
    (f_Pa_byteBehind F σ v33).bind fun v34 =>
    (f_Tm_addBytes F σ x0 v32 v34).bind fun σ35 =>
    some σ35)
theorem rc_Tm_addPart {F : Nat} {σ : am_S} {x0 : Nat} (h : (f_Tm_addPart F σ x0).isSome = true) : ∃ fs, σ.2.2 x0 = some (.inr (7, fs)) := am_ck_some h
theorem m_Tm_addPart (g : am_G) (F : Nat) (σ : am_S) (x0 : Nat) : am_Met g mx_Tm_addPart [.ref x0] σ ((f_Tm_addPart F σ x0).bind am_kV) := by
  refine am_Met.of (lv := [some (.ref x0)]) (am_cc rfl am_c0) (Nat.le_of_ble_eq_true rfl) rfl (by decide) ?_
  unfold f_Tm_addPart
  refine am_W.ck ?_
  refine aw_aload_n 0 (kk := ?_)
  refine aw_gA 7 2 40 (hw := wd_213) (kk := fun v1 => ?_)
  refine aw_aload_n 0 (kk := ?_)
  refine aw_gA 7 1 36 (hw := wd_212) (kk := fun v2 => ?_)
  refine ac_PI (st := []) [.ref v1, .ref v2] (ag_V 125 8 rc_Pa_isAs wd_867 cal_Pa_isAs wd_868 wd_869) cal_Pa_isAs ⟨by decide, by decide⟩ (Nat.le_of_ble_eq_true rfl) (m_Pa_isAs g F σ v1 v2) (fun v3 => ?_)
  refine aw_if_eq 24 35 (kt := fun _ => ?_) (kf := fun _ => ?_)
  · refine aw_aload_n 0 (kk := ?_)
    refine aw_gA 7 3 43 (hw := wd_214) (kk := fun v4 => ?_)
    refine aw_aload_n 0 (kk := ?_)
    refine aw_gA 7 1 36 (hw := wd_212) (kk := fun v5 => ?_)
    refine ac_PI (st := []) [.ref v4, .ref v5] (ag_V 125 8 rc_Pa_isAs wd_867 cal_Pa_isAs wd_868 wd_869) cal_Pa_isAs ⟨by decide, by decide⟩ (Nat.le_of_ble_eq_true rfl) (m_Pa_isAs g F σ v4 v5) (fun v6 => ?_)
    refine aw_if_ne 17 63 (kt := fun _ => ?_) (kf := fun _ => ?_)
    · exact am_W.drop [true] (b_Tm_addPart_j63 F x0 σ)
    · refine aw_aload_n 0 (kk := ?_)
      refine aw_gA 7 3 43 (hw := wd_214) (kk := fun v12 => ?_)
      refine aw_aload_n 0 (kk := ?_)
      refine aw_gA 7 2 40 (hw := wd_213) (kk := fun v13 => ?_)
      refine ac_PI (st := []) [.ref v12, .ref v13] (ag_V 125 8 rc_Pa_isAs wd_867 cal_Pa_isAs wd_868 wd_869) cal_Pa_isAs ⟨by decide, by decide⟩ (Nat.le_of_ble_eq_true rfl) (m_Pa_isAs g F σ v12 v13) (fun v14 => ?_)
      refine aw_if_eq 24 84 (kt := fun _ => ?_) (kf := fun _ => ?_)
      · refine aw_aload_n 0 (kk := ?_)
        refine aw_iconst 1 (v := 1) (kk := ?_)
        refine aw_pZ 7 9 50 (hw := wd_220) (kk := fun σ15 => ?_)
        refine aw_aload_n 0 (kk := ?_)
        refine aw_ldcS 132 2 "<<<<<<< ours\n" (by decide) (hz := fun h => h.2.2.1.1) (kk := ?_)
        refine ac_V (st := []) [.ref x0, .ref 2] (ag_V 134 7 rc_Tm_addMark wd_894 cal_Tm_addMark wd_896 ws_37) cal_Tm_addMark ⟨by decide, by decide⟩ (Nat.le_of_ble_eq_true rfl) (m_Tm_addMark g F σ15 x0 2) (fun σ16 => ?_)
        refine aw_aload_n 0 (kk := ?_)
        refine aw_aload_n 0 (kk := ?_)
        refine aw_gA 7 2 40 (hw := wd_213) (kk := fun v17 => ?_)
        refine ac_PI (st := [.ref x0]) [.ref v17] (ag_V 129 8 rc_Pa_firstByte wd_872 cal_Pa_firstByte wd_873 wd_874) cal_Pa_firstByte ⟨by decide, by decide⟩ (Nat.le_of_ble_eq_true rfl) (m_Pa_firstByte g F σ16 v17) (fun v18 => ?_)
        refine aw_aload_n 0 (kk := ?_)
        refine aw_gA 7 2 40 (hw := wd_213) (kk := fun v19 => ?_)
        refine ac_PI (st := [.int v18, .ref x0]) [.ref v19] (ag_V 112 8 rc_Pa_byteBehind wd_880 cal_Pa_byteBehind wd_881 wd_882) cal_Pa_byteBehind ⟨by decide, by decide⟩ (Nat.le_of_ble_eq_true rfl) (m_Pa_byteBehind g F σ16 v19) (fun v20 => ?_)
        refine ac_V (st := []) [.ref x0, .int v18, .int v20] (ag_V 90 7 rc_Tm_addBytes wd_884 cal_Tm_addBytes wd_886 ws_36) cal_Tm_addBytes ⟨by decide, by decide⟩ (Nat.le_of_ble_eq_true rfl) (m_Tm_addBytes g F σ16 x0 v18 v20) (fun σ21 => ?_)
        refine aw_aload_n 0 (kk := ?_)
        refine ac_V (st := []) [.ref x0] (ag_V 138 7 rc_Tm_endLine wd_950 cal_Tm_endLine wd_952 ws_39) cal_Tm_endLine ⟨by decide, by decide⟩ (Nat.le_of_ble_eq_true rfl) (m_Tm_endLine g F σ21 x0) (fun σ22 => ?_)
        refine aw_aload_n 0 (kk := ?_)
        refine aw_ldcS 141 3 "=======\n" (by decide) (hz := fun h => h.2.2.1.2.1) (kk := ?_)
        refine ac_V (st := []) [.ref x0, .ref 3] (ag_V 134 7 rc_Tm_addMark wd_894 cal_Tm_addMark wd_896 ws_37) cal_Tm_addMark ⟨by decide, by decide⟩ (Nat.le_of_ble_eq_true rfl) (m_Tm_addMark g F σ22 x0 3) (fun σ23 => ?_)
        refine aw_aload_n 0 (kk := ?_)
        refine aw_aload_n 0 (kk := ?_)
        refine aw_gA 7 3 43 (hw := wd_214) (kk := fun v24 => ?_)
        refine ac_PI (st := [.ref x0]) [.ref v24] (ag_V 129 8 rc_Pa_firstByte wd_872 cal_Pa_firstByte wd_873 wd_874) cal_Pa_firstByte ⟨by decide, by decide⟩ (Nat.le_of_ble_eq_true rfl) (m_Pa_firstByte g F σ23 v24) (fun v25 => ?_)
        refine aw_aload_n 0 (kk := ?_)
        refine aw_gA 7 3 43 (hw := wd_214) (kk := fun v26 => ?_)
        refine ac_PI (st := [.int v25, .ref x0]) [.ref v26] (ag_V 112 8 rc_Pa_byteBehind wd_880 cal_Pa_byteBehind wd_881 wd_882) cal_Pa_byteBehind ⟨by decide, by decide⟩ (Nat.le_of_ble_eq_true rfl) (m_Pa_byteBehind g F σ23 v26) (fun v27 => ?_)
        refine ac_V (st := []) [.ref x0, .int v25, .int v27] (ag_V 90 7 rc_Tm_addBytes wd_884 cal_Tm_addBytes wd_886 ws_36) cal_Tm_addBytes ⟨by decide, by decide⟩ (Nat.le_of_ble_eq_true rfl) (m_Tm_addBytes g F σ23 x0 v25 v27) (fun σ28 => ?_)
        refine aw_aload_n 0 (kk := ?_)
        refine ac_V (st := []) [.ref x0] (ag_V 138 7 rc_Tm_endLine wd_950 cal_Tm_endLine wd_952 ws_39) cal_Tm_endLine ⟨by decide, by decide⟩ (Nat.le_of_ble_eq_true rfl) (m_Tm_endLine g F σ28 x0) (fun σ29 => ?_)
        refine aw_aload_n 0 (kk := ?_)
        refine aw_ldcS 143 4 ">>>>>>> theirs\n" (by decide) (hz := fun h => h.2.2.1.2.2) (kk := ?_)
        refine ac_V (st := []) [.ref x0, .ref 4] (ag_V 134 7 rc_Tm_addMark wd_894 cal_Tm_addMark wd_896 ws_37) cal_Tm_addMark ⟨by decide, by decide⟩ (Nat.le_of_ble_eq_true rfl) (m_Tm_addMark g F σ29 x0 4) (fun σ30 => ?_)
        exact aw_vret
      · exact am_W.drop [true] (b_Tm_addPart_j63 F x0 σ)
  · refine aw_aload_n 0 (kk := ?_)
    refine aw_aload_n 0 (kk := ?_)
    refine aw_gA 7 3 43 (hw := wd_214) (kk := fun v31 => ?_)
    refine ac_PI (st := [.ref x0]) [.ref v31] (ag_V 129 8 rc_Pa_firstByte wd_872 cal_Pa_firstByte wd_873 wd_874) cal_Pa_firstByte ⟨by decide, by decide⟩ (Nat.le_of_ble_eq_true rfl) (m_Pa_firstByte g F σ v31) (fun v32 => ?_)
    refine aw_aload_n 0 (kk := ?_)
    refine aw_gA 7 3 43 (hw := wd_214) (kk := fun v33 => ?_)
    refine ac_PI (st := [.int v32, .ref x0]) [.ref v33] (ag_V 112 8 rc_Pa_byteBehind wd_880 cal_Pa_byteBehind wd_881 wd_882) cal_Pa_byteBehind ⟨by decide, by decide⟩ (Nat.le_of_ble_eq_true rfl) (m_Pa_byteBehind g F σ v33) (fun v34 => ?_)
    refine ac_V (st := []) [.ref x0, .int v32, .int v34] (ag_V 90 7 rc_Tm_addBytes wd_884 cal_Tm_addBytes wd_886 ws_36) cal_Tm_addBytes ⟨by decide, by decide⟩ (Nat.le_of_ble_eq_true rfl) (m_Tm_addBytes g F σ x0 v32 v34) (fun σ35 => ?_)
    refine aw_goto 119 151 (kk := ?_)
    exact aw_vret
def f_Pa_byteBehindStable (F : Nat) (σ : am_S) (x0 : Nat) : Option (Int32) :=
  am_ck σ 8 x0 (
  (am_gA σ 8 0 x0).bind fun v1 =>
  (am_gI σ 8 1 x0).bind fun v2 =>
  (am_gI σ 8 3 x0).bind fun v3 =>
  (f_Bl_lineStart F σ v1 v2 (v3 + 1)).bind fun v4 =>
  some v4)
theorem rc_Pa_byteBehindStable {F : Nat} {σ : am_S} {x0 : Nat} (h : (f_Pa_byteBehindStable F σ x0).isSome = true) : ∃ fs, σ.2.2 x0 = some (.inr (8, fs)) := am_ck_some h
theorem m_Pa_byteBehindStable (g : am_G) (F : Nat) (σ : am_S) (x0 : Nat) : am_Met g mx_Pa_byteBehindStable [.ref x0] σ ((f_Pa_byteBehindStable F σ x0).bind (am_kPI σ)) := by
  refine am_Met.of (lv := [some (.ref x0)]) (am_cc rfl am_c0) (Nat.le_of_ble_eq_true rfl) rfl (by decide) ?_
  unfold f_Pa_byteBehindStable
  refine am_W.ck ?_
  refine aw_aload_n 0 (kk := ?_)
  refine aw_gA 8 0 7 (hw := wd_198) (kk := fun v1 => ?_)
  refine aw_aload_n 0 (kk := ?_)
  refine aw_gI 8 1 13 (hw := wd_199) (kk := fun v2 => ?_)
  refine aw_aload_n 0 (kk := ?_)
  refine aw_gI 8 3 20 (hw := wd_201) (kk := fun v3 => ?_)
  refine aw_iconst 1 (v := 1) (kk := ?_)
  refine aw_iadd (kk := ?_)
  refine ac_PI (st := []) [.ref v1, .int v2, .int (v3 + 1)] (ag_V 29 2 rc_Bl_lineStart wd_876 cal_Bl_lineStart wd_877 wd_878) cal_Bl_lineStart ⟨by decide, by decide⟩ (Nat.le_of_ble_eq_true rfl) (m_Bl_lineStart g F σ v1 v2 (v3 + 1)) (fun v4 => ?_)
  exact aw_iretP
def f_Pa_goBehindStable (F : Nat) (σ : am_S) (x0 : Nat) : Option (am_S) :=
  am_ck σ 8 x0 (
  (am_gI σ 8 3 x0).bind fun v1 =>
  (am_pI σ 8 2 x0 (v1 + 1)).bind fun σ2 =>
  some σ2)
theorem rc_Pa_goBehindStable {F : Nat} {σ : am_S} {x0 : Nat} (h : (f_Pa_goBehindStable F σ x0).isSome = true) : ∃ fs, σ.2.2 x0 = some (.inr (8, fs)) := am_ck_some h
theorem m_Pa_goBehindStable (g : am_G) (F : Nat) (σ : am_S) (x0 : Nat) : am_Met g mx_Pa_goBehindStable [.ref x0] σ ((f_Pa_goBehindStable F σ x0).bind am_kV) := by
  refine am_Met.of (lv := [some (.ref x0)]) (am_cc rfl am_c0) (Nat.le_of_ble_eq_true rfl) rfl (by decide) ?_
  unfold f_Pa_goBehindStable
  refine am_W.ck ?_
  refine aw_aload_n 0 (kk := ?_)
  refine aw_aload_n 0 (kk := ?_)
  refine aw_gI 8 3 20 (hw := wd_201) (kk := fun v1 => ?_)
  refine aw_iconst 1 (v := 1) (kk := ?_)
  refine aw_iadd (kk := ?_)
  refine aw_pI 8 2 17 (hw := wd_200) (kk := fun σ2 => ?_)
  exact aw_vret
def f_Tm_addStableLines_l2 (F : Nat) (x0 : Nat) (x1 : Int32)  : Nat → Int32 → am_S → Option (am_S)
  | 0, _, _ => none
  | n + 1, x2, σ =>
    if x1 ≤ x2 then
      some σ
    else
      (am_gA σ 7 5 x0).bind fun v1 =>
      (am_lI σ .int v1 x2).bind fun v2 =>
      if v2 < 0 then
        f_Tm_addStableLines_l2 F x0 x1 n (x2 + 1) σ
      else
        (am_gA σ 7 6 x0).bind fun v3 =>
        (am_lI σ .int v3 x2).bind fun v4 =>
        if v4 < 0 then
          f_Tm_addStableLines_l2 F x0 x1 n (x2 + 1) σ
        else
          (am_gA σ 7 1 x0).bind fun v5 =>
          (f_Pa_reachTo F σ v5 x2).bind fun σ6 =>
          (am_gA σ6 7 2 x0).bind fun v7 =>
          (am_gA σ6 7 5 x0).bind fun v8 =>
          (am_lI σ6 .int v8 x2).bind fun v9 =>
          (f_Pa_reachTo F σ6 v7 v9).bind fun σ10 =>
          (am_gA σ10 7 3 x0).bind fun v11 =>
          (am_gA σ10 7 6 x0).bind fun v12 =>
          (am_lI σ10 .int v12 x2).bind fun v13 =>
          (f_Pa_reachTo F σ10 v11 v13).bind fun σ14 =>
          (f_Tm_addPart F σ14 x0).bind fun σ15 =>
          (am_gA σ15 7 2 x0).bind fun v16 =>
          (f_Pa_byteBehind F σ15 v16).bind fun v17 =>
          (am_gA σ15 7 2 x0).bind fun v18 =>
          (f_Pa_byteBehindStable F σ15 v18).bind fun v19 =>
          (f_Tm_addBytes F σ15 x0 v17 v19).bind fun σ20 =>
          (am_gA σ20 7 1 x0).bind fun v21 =>
          (f_Pa_goBehindStable F σ20 v21).bind fun σ22 =>
          (am_gA σ22 7 2 x0).bind fun v23 =>
          (f_Pa_goBehindStable F σ22 v23).bind fun σ24 =>
          (am_gA σ24 7 3 x0).bind fun v25 =>
          (f_Pa_goBehindStable F σ24 v25).bind fun σ26 =>
          f_Tm_addStableLines_l2 F x0 x1 n (x2 + 1) σ26
theorem b_Tm_addStableLines_l2 {g : am_G} {σ0 : am_S} (F : Nat) (x0 : Nat) (x1 : Int32)   : ∀ (n : Nat) (x2 : Int32) (σ : am_S), am_W g mx_Tm_addStableLines σ0 2 [some (.ref x0), some (.int x1), some (.int x2)] [] σ (f_Tm_addStableLines_l2 F x0 x1 n x2 σ) am_kV := by
  intro n
  induction n with
  | zero =>
    intro x2 σ
    rw [f_Tm_addStableLines_l2]
    exact am_W.none
  | succ n ih =>
    intro x2 σ
    rw [f_Tm_addStableLines_l2]
    refine aw_iload_n 2 (kk := ?_)
    refine aw_iload_n 1 (kk := ?_)
    refine aw_icmp_ge 104 108 (kt := fun _ => ?_) (kf := fun _ => ?_)
    · exact aw_vret
    · refine aw_aload_n 0 (kk := ?_)
      refine aw_gA 7 5 16 (hw := wd_216) (kk := fun v1 => ?_)
      refine aw_iload_n 2 (kk := ?_)
      refine aw_lI (kk := fun v2 => ?_)
      refine aw_if_lt 89 102 (kt := fun _ => ?_) (kf := fun _ => ?_)
      · refine aw_iinc 2 1 (v := 1) (kk := ?_)
        refine aw_goto (-103) 2 (kk := ?_)
        exact am_W.drop [true, true, true] (ih (x2 + 1) σ)
      · refine aw_aload_n 0 (kk := ?_)
        refine aw_gA 7 6 19 (hw := wd_217) (kk := fun v3 => ?_)
        refine aw_iload_n 2 (kk := ?_)
        refine aw_lI (kk := fun v4 => ?_)
        refine aw_if_lt 80 102 (kt := fun _ => ?_) (kf := fun _ => ?_)
        · refine aw_iinc 2 1 (v := 1) (kk := ?_)
          refine aw_goto (-103) 2 (kk := ?_)
          exact am_W.drop [true, true, true] (ih (x2 + 1) σ)
        · refine aw_aload_n 0 (kk := ?_)
          refine aw_gA 7 1 36 (hw := wd_212) (kk := fun v5 => ?_)
          refine aw_iload_n 2 (kk := ?_)
          refine ac_V (st := []) [.ref v5, .int x2] (ag_V 106 8 rc_Pa_reachTo wd_859 cal_Pa_reachTo wd_860 wd_861) cal_Pa_reachTo ⟨by decide, by decide⟩ (Nat.le_of_ble_eq_true rfl) (m_Pa_reachTo g F σ v5 x2) (fun σ6 => ?_)
          refine aw_aload_n 0 (kk := ?_)
          refine aw_gA 7 2 40 (hw := wd_213) (kk := fun v7 => ?_)
          refine aw_aload_n 0 (kk := ?_)
          refine aw_gA 7 5 16 (hw := wd_216) (kk := fun v8 => ?_)
          refine aw_iload_n 2 (kk := ?_)
          refine aw_lI (kk := fun v9 => ?_)
          refine ac_V (st := []) [.ref v7, .int v9] (ag_V 106 8 rc_Pa_reachTo wd_859 cal_Pa_reachTo wd_860 wd_861) cal_Pa_reachTo ⟨by decide, by decide⟩ (Nat.le_of_ble_eq_true rfl) (m_Pa_reachTo g F σ6 v7 v9) (fun σ10 => ?_)
          refine aw_aload_n 0 (kk := ?_)
          refine aw_gA 7 3 43 (hw := wd_214) (kk := fun v11 => ?_)
          refine aw_aload_n 0 (kk := ?_)
          refine aw_gA 7 6 19 (hw := wd_217) (kk := fun v12 => ?_)
          refine aw_iload_n 2 (kk := ?_)
          refine aw_lI (kk := fun v13 => ?_)
          refine ac_V (st := []) [.ref v11, .int v13] (ag_V 106 8 rc_Pa_reachTo wd_859 cal_Pa_reachTo wd_860 wd_861) cal_Pa_reachTo ⟨by decide, by decide⟩ (Nat.le_of_ble_eq_true rfl) (m_Pa_reachTo g F σ10 v11 v13) (fun σ14 => ?_)
          refine aw_aload_n 0 (kk := ?_)
          refine ac_V (st := []) [.ref x0] (ag_V 109 7 rc_Tm_addPart wd_863 cal_Tm_addPart wd_865 ws_35) cal_Tm_addPart ⟨by decide, by decide⟩ (Nat.le_of_ble_eq_true rfl) (m_Tm_addPart g F σ14 x0) (fun σ15 => ?_)
          refine aw_aload_n 0 (kk := ?_)
          refine aw_aload_n 0 (kk := ?_)
          refine aw_gA 7 2 40 (hw := wd_213) (kk := fun v16 => ?_)
          refine ac_PI (st := [.ref x0]) [.ref v16] (ag_V 112 8 rc_Pa_byteBehind wd_880 cal_Pa_byteBehind wd_881 wd_882) cal_Pa_byteBehind ⟨by decide, by decide⟩ (Nat.le_of_ble_eq_true rfl) (m_Pa_byteBehind g F σ15 v16) (fun v17 => ?_)
          refine aw_aload_n 0 (kk := ?_)
          refine aw_gA 7 2 40 (hw := wd_213) (kk := fun v18 => ?_)
          refine ac_PI (st := [.int v17, .ref x0]) [.ref v18] (ag_V 116 8 rc_Pa_byteBehindStable wd_956 cal_Pa_byteBehindStable wd_957 wd_958) cal_Pa_byteBehindStable ⟨by decide, by decide⟩ (Nat.le_of_ble_eq_true rfl) (m_Pa_byteBehindStable g F σ15 v18) (fun v19 => ?_)
          refine ac_V (st := []) [.ref x0, .int v17, .int v19] (ag_V 90 7 rc_Tm_addBytes wd_884 cal_Tm_addBytes wd_886 ws_36) cal_Tm_addBytes ⟨by decide, by decide⟩ (Nat.le_of_ble_eq_true rfl) (m_Tm_addBytes g F σ15 x0 v17 v19) (fun σ20 => ?_)
          refine aw_aload_n 0 (kk := ?_)
          refine aw_gA 7 1 36 (hw := wd_212) (kk := fun v21 => ?_)
          refine ac_V (st := []) [.ref v21] (ag_V 119 8 rc_Pa_goBehindStable wd_960 cal_Pa_goBehindStable wd_961 wd_962) cal_Pa_goBehindStable ⟨by decide, by decide⟩ (Nat.le_of_ble_eq_true rfl) (m_Pa_goBehindStable g F σ20 v21) (fun σ22 => ?_)
          refine aw_aload_n 0 (kk := ?_)
          refine aw_gA 7 2 40 (hw := wd_213) (kk := fun v23 => ?_)
          refine ac_V (st := []) [.ref v23] (ag_V 119 8 rc_Pa_goBehindStable wd_960 cal_Pa_goBehindStable wd_961 wd_962) cal_Pa_goBehindStable ⟨by decide, by decide⟩ (Nat.le_of_ble_eq_true rfl) (m_Pa_goBehindStable g F σ22 v23) (fun σ24 => ?_)
          refine aw_aload_n 0 (kk := ?_)
          refine aw_gA 7 3 43 (hw := wd_214) (kk := fun v25 => ?_)
          refine ac_V (st := []) [.ref v25] (ag_V 119 8 rc_Pa_goBehindStable wd_960 cal_Pa_goBehindStable wd_961 wd_962) cal_Pa_goBehindStable ⟨by decide, by decide⟩ (Nat.le_of_ble_eq_true rfl) (m_Pa_goBehindStable g F σ24 v25) (fun σ26 => ?_)
          refine aw_iinc 2 1 (v := 1) (kk := ?_)
          refine aw_goto (-103) 2 (kk := ?_)
          exact am_W.drop [true, true, true] (ih (x2 + 1) σ26)
def f_Tm_addStableLines (F : Nat) (σ : am_S) (x0 : Nat) (x1 : Int32) : Option (am_S) :=
  am_ck σ 7 x0 (
  f_Tm_addStableLines_l2 F x0 x1 F 0 σ)
theorem rc_Tm_addStableLines {F : Nat} {σ : am_S} {x0 : Nat} {x1 : Int32} (h : (f_Tm_addStableLines F σ x0 x1).isSome = true) : ∃ fs, σ.2.2 x0 = some (.inr (7, fs)) := am_ck_some h
theorem m_Tm_addStableLines (g : am_G) (F : Nat) (σ : am_S) (x0 : Nat) (x1 : Int32) : am_Met g mx_Tm_addStableLines [.ref x0, .int x1] σ ((f_Tm_addStableLines F σ x0 x1).bind am_kV) := by
  refine am_Met.of (lv := [some (.ref x0), some (.int x1), none]) (am_cc rfl (am_cc rfl am_c0)) (Nat.le_of_ble_eq_true rfl) rfl (by decide) ?_
  unfold f_Tm_addStableLines
  refine am_W.ck ?_
  refine aw_iconst 0 (v := 0) (kk := ?_)
  refine aw_istore_n 2 (kk := ?_)
  exact am_W.drop [true, true, true] (b_Tm_addStableLines_l2 F x0 x1 F 0 σ)
def f_Pa_reachToEnd (F : Nat) (σ : am_S) (x0 : Nat) : Option (am_S) :=
  am_ck σ 8 x0 (
  (am_gA σ 8 0 x0).bind fun v1 =>
  (am_gI σ 8 1 x0).bind fun v2 =>
  (f_Bl_lineCount F σ v1 v2).bind fun v3 =>
  (am_pI σ 8 3 x0 v3).bind fun σ4 =>
  some σ4)
theorem rc_Pa_reachToEnd {F : Nat} {σ : am_S} {x0 : Nat} (h : (f_Pa_reachToEnd F σ x0).isSome = true) : ∃ fs, σ.2.2 x0 = some (.inr (8, fs)) := am_ck_some h
theorem m_Pa_reachToEnd (g : am_G) (F : Nat) (σ : am_S) (x0 : Nat) : am_Met g mx_Pa_reachToEnd [.ref x0] σ ((f_Pa_reachToEnd F σ x0).bind am_kV) := by
  refine am_Met.of (lv := [some (.ref x0)]) (am_cc rfl am_c0) (Nat.le_of_ble_eq_true rfl) rfl (by decide) ?_
  unfold f_Pa_reachToEnd
  refine am_W.ck ?_
  refine aw_aload_n 0 (kk := ?_)
  refine aw_aload_n 0 (kk := ?_)
  refine aw_gA 8 0 7 (hw := wd_198) (kk := fun v1 => ?_)
  refine aw_aload_n 0 (kk := ?_)
  refine aw_gI 8 1 13 (hw := wd_199) (kk := fun v2 => ?_)
  refine ac_PI (st := [.ref x0]) [.ref v1, .int v2] (ag_V 23 2 rc_Bl_lineCount wd_972 cal_Bl_lineCount wd_846 wd_847) cal_Bl_lineCount ⟨by decide, by decide⟩ (Nat.le_of_ble_eq_true rfl) (m_Bl_lineCount g F σ v1 v2) (fun v3 => ?_)
  refine aw_pI 8 3 20 (hw := wd_201) (kk := fun σ4 => ?_)
  exact aw_vret
def f_Tm_addLastPart (F : Nat) (σ : am_S) (x0 : Nat) : Option (am_S) :=
  am_ck σ 7 x0 (
  (am_gA σ 7 1 x0).bind fun v1 =>
  (f_Pa_reachToEnd F σ v1).bind fun σ2 =>
  (am_gA σ2 7 2 x0).bind fun v3 =>
  (f_Pa_reachToEnd F σ2 v3).bind fun σ4 =>
  (am_gA σ4 7 3 x0).bind fun v5 =>
  (f_Pa_reachToEnd F σ4 v5).bind fun σ6 =>
  (f_Tm_addPart F σ6 x0).bind fun σ7 =>
  some σ7)
theorem rc_Tm_addLastPart {F : Nat} {σ : am_S} {x0 : Nat} (h : (f_Tm_addLastPart F σ x0).isSome = true) : ∃ fs, σ.2.2 x0 = some (.inr (7, fs)) := am_ck_some h
theorem m_Tm_addLastPart (g : am_G) (F : Nat) (σ : am_S) (x0 : Nat) : am_Met g mx_Tm_addLastPart [.ref x0] σ ((f_Tm_addLastPart F σ x0).bind am_kV) := by
  refine am_Met.of (lv := [some (.ref x0)]) (am_cc rfl am_c0) (Nat.le_of_ble_eq_true rfl) rfl (by decide) ?_
  unfold f_Tm_addLastPart
  refine am_W.ck ?_
  refine aw_aload_n 0 (kk := ?_)
  refine aw_gA 7 1 36 (hw := wd_212) (kk := fun v1 => ?_)
  refine ac_V (st := []) [.ref v1] (ag_V 122 8 rc_Pa_reachToEnd wd_968 cal_Pa_reachToEnd wd_969 wd_970) cal_Pa_reachToEnd ⟨by decide, by decide⟩ (Nat.le_of_ble_eq_true rfl) (m_Pa_reachToEnd g F σ v1) (fun σ2 => ?_)
  refine aw_aload_n 0 (kk := ?_)
  refine aw_gA 7 2 40 (hw := wd_213) (kk := fun v3 => ?_)
  refine ac_V (st := []) [.ref v3] (ag_V 122 8 rc_Pa_reachToEnd wd_968 cal_Pa_reachToEnd wd_969 wd_970) cal_Pa_reachToEnd ⟨by decide, by decide⟩ (Nat.le_of_ble_eq_true rfl) (m_Pa_reachToEnd g F σ2 v3) (fun σ4 => ?_)
  refine aw_aload_n 0 (kk := ?_)
  refine aw_gA 7 3 43 (hw := wd_214) (kk := fun v5 => ?_)
  refine ac_V (st := []) [.ref v5] (ag_V 122 8 rc_Pa_reachToEnd wd_968 cal_Pa_reachToEnd wd_969 wd_970) cal_Pa_reachToEnd ⟨by decide, by decide⟩ (Nat.le_of_ble_eq_true rfl) (m_Pa_reachToEnd g F σ4 v5) (fun σ6 => ?_)
  refine aw_aload_n 0 (kk := ?_)
  refine ac_V (st := []) [.ref x0] (ag_V 109 7 rc_Tm_addPart wd_863 cal_Tm_addPart wd_865 ws_35) cal_Tm_addPart ⟨by decide, by decide⟩ (Nat.le_of_ble_eq_true rfl) (m_Tm_addPart g F σ6 x0) (fun σ7 => ?_)
  exact aw_vret
def f_Tm_mergeTexts_j121 (F : Nat) (x0 : Nat) (x2 : Int32)  (σ : am_S) : Option (am_S) :=
  (f_Tm_startText F σ x0).bind fun σ5 =>
  (am_gA σ5 7 0 x0).bind fun v6 =>
  (f_Bl_startOf F σ5 v6 x2).bind fun v7 =>
  (am_gA σ5 7 0 x0).bind fun v8 =>
  (f_Bl_startOf F σ5 v8 x2).bind fun v9 =>
  (am_gA σ5 7 0 x0).bind fun v10 =>
  (f_Bl_lengthOf F σ5 v10 x2).bind fun v11 =>
  (f_Tm_addBytes F σ5 x0 v7 (v9 + v11)).bind fun σ12 =>
  (am_pZ σ12 7 9 x0 1).bind fun σ13 =>
  some σ13
theorem b_Tm_mergeTexts_j121 {g : am_G} {σ0 : am_S} (F : Nat) (x0 : Nat) (x2 : Int32)   (σ : am_S) : am_W g mx_Tm_mergeTexts σ0 121 [some (.ref x0), none, some (.int x2), none, none] [] σ (f_Tm_mergeTexts_j121 F x0 x2 σ) am_kV := by
  unfold f_Tm_mergeTexts_j121
  refine aw_aload_n 0 (kk := ?_)
  refine ac_V (st := []) [.ref x0] (ag_V 54 7 rc_Tm_startText wd_829 cal_Tm_startText wd_831 ws_31) cal_Tm_startText ⟨by decide, by decide⟩ (Nat.le_of_ble_eq_true rfl) (m_Tm_startText g F σ x0) (fun σ5 => ?_)
  refine aw_aload_n 0 (kk := ?_)
  refine aw_aload_n 0 (kk := ?_)
  refine aw_gA 7 0 27 (hw := wd_211) (kk := fun v6 => ?_)
  refine aw_iload_n 2 (kk := ?_)
  refine ac_PI (st := [.ref x0]) [.ref v6, .int x2] (ag_V 84 2 rc_Bl_startOf wd_973 cal_Bl_startOf wd_974 wd_975) cal_Bl_startOf ⟨by decide, by decide⟩ (Nat.le_of_ble_eq_true rfl) (m_Bl_startOf g F σ5 v6 x2) (fun v7 => ?_)
  refine aw_aload_n 0 (kk := ?_)
  refine aw_gA 7 0 27 (hw := wd_211) (kk := fun v8 => ?_)
  refine aw_iload_n 2 (kk := ?_)
  refine ac_PI (st := [.int v7, .ref x0]) [.ref v8, .int x2] (ag_V 84 2 rc_Bl_startOf wd_973 cal_Bl_startOf wd_974 wd_975) cal_Bl_startOf ⟨by decide, by decide⟩ (Nat.le_of_ble_eq_true rfl) (m_Bl_startOf g F σ5 v8 x2) (fun v9 => ?_)
  refine aw_aload_n 0 (kk := ?_)
  refine aw_gA 7 0 27 (hw := wd_211) (kk := fun v10 => ?_)
  refine aw_iload_n 2 (kk := ?_)
  refine ac_PI (st := [.int v9, .int v7, .ref x0]) [.ref v10, .int x2] (ag_V 87 2 rc_Bl_lengthOf wd_977 cal_Bl_lengthOf wd_593 wd_594) cal_Bl_lengthOf ⟨by decide, by decide⟩ (Nat.le_of_ble_eq_true rfl) (m_Bl_lengthOf g F σ5 v10 x2) (fun v11 => ?_)
  refine aw_iadd (kk := ?_)
  refine ac_V (st := []) [.ref x0, .int v7, .int (v9 + v11)] (ag_V 90 7 rc_Tm_addBytes wd_884 cal_Tm_addBytes wd_886 ws_36) cal_Tm_addBytes ⟨by decide, by decide⟩ (Nat.le_of_ble_eq_true rfl) (m_Tm_addBytes g F σ5 x0 v7 (v9 + v11)) (fun σ12 => ?_)
  refine aw_aload_n 0 (kk := ?_)
  refine aw_iconst 1 (v := 1) (kk := ?_)
  refine aw_pZ 7 9 50 (hw := wd_220) (kk := fun σ13 => ?_)
  exact aw_vret
def f_Tm_mergeTexts_j109 (F : Nat) (x0 : Nat) (x2 : Int32) (x4 : Int32)  (σ : am_S) : Option (am_S) :=
  if x4 = 0 then
    (am_gI σ 7 10 x0).bind fun v14 =>
    if v14 = 0 then
      some σ
    else
      f_Tm_mergeTexts_j121 F x0 x2 σ
  else
    f_Tm_mergeTexts_j121 F x0 x2 σ
theorem b_Tm_mergeTexts_j109 {g : am_G} {σ0 : am_S} (F : Nat) (x0 : Nat) (x2 : Int32) (x4 : Int32)   (σ : am_S) : am_W g mx_Tm_mergeTexts σ0 109 [some (.ref x0), none, some (.int x2), none, some (.int x4)] [] σ (f_Tm_mergeTexts_j109 F x0 x2 x4 σ) am_kV := by
  unfold f_Tm_mergeTexts_j109
  refine aw_iload 4 (kk := ?_)
  refine aw_if_ne 10 121 (kt := fun _ => ?_) (kf := fun _ => ?_)
  · exact am_W.drop [true, false, true, false, false] (b_Tm_mergeTexts_j121 F x0 x2 σ)
  · refine aw_aload_n 0 (kk := ?_)
    refine aw_gI 7 10 81 (hw := wd_221) (kk := fun v14 => ?_)
    refine aw_if_eq 41 159 (kt := fun _ => ?_) (kf := fun _ => ?_)
    · exact aw_vret
    · exact am_W.drop [true, false, true, false, false] (b_Tm_mergeTexts_j121 F x0 x2 σ)
def f_Tm_mergeTexts_j42 (F : Nat) (x0 : Nat) (x1 : Int32) (x2 : Int32) (x3 : Int32) (t4 : Int32)  (σ : am_S) : Option (am_S) :=
  if t4 = 0 then
    (am_gA σ 7 1 x0).bind fun v15 =>
    (f_Pa_begin F σ v15 x1).bind fun σ16 =>
    (am_gA σ16 7 2 x0).bind fun v17 =>
    (f_Pa_begin F σ16 v17 x2).bind fun σ18 =>
    (am_gA σ18 7 3 x0).bind fun v19 =>
    (f_Pa_begin F σ18 v19 x3).bind fun σ20 =>
    (am_gA σ20 7 5 x0).bind fun v21 =>
    (f_Tm_pairLines F σ20 x0 x1 x2 v21).bind fun σ22 =>
    (am_gA σ22 7 6 x0).bind fun v23 =>
    (f_Tm_pairLines F σ22 x0 x1 x3 v23).bind fun σ24 =>
    (am_gA σ24 7 0 x0).bind fun v25 =>
    (f_Bl_lineCount F σ24 v25 x1).bind fun v26 =>
    (f_Tm_addStableLines F σ24 x0 v26).bind fun σ27 =>
    (f_Tm_addLastPart F σ27 x0).bind fun σ28 =>
    f_Tm_mergeTexts_j109 F x0 x2 t4 σ28
  else
    f_Tm_mergeTexts_j109 F x0 x2 t4 σ
theorem b_Tm_mergeTexts_j42 {g : am_G} {σ0 : am_S} (F : Nat) (x0 : Nat) (x1 : Int32) (x2 : Int32) (x3 : Int32) (t4 : Int32)   (σ : am_S) : am_W g mx_Tm_mergeTexts σ0 42 [some (.ref x0), some (.int x1), some (.int x2), some (.int x3), none] [.int t4] σ (f_Tm_mergeTexts_j42 F x0 x1 x2 x3 t4 σ) am_kV := by
  unfold f_Tm_mergeTexts_j42
  refine aw_istore 4 (kk := ?_)
  refine aw_iload 4 (kk := ?_)
  refine aw_if_ne 63 109 (kt := fun _ => ?_) (kf := fun _ => ?_)
  · exact am_W.drop [true, false, true, false, true] (b_Tm_mergeTexts_j109 F x0 x2 t4 σ)
  · refine aw_aload_n 0 (kk := ?_)
    refine aw_gA 7 1 36 (hw := wd_212) (kk := fun v15 => ?_)
    refine aw_iload_n 1 (kk := ?_)
    refine ac_V (st := []) [.ref v15, .int x1] (ag_V 63 8 rc_Pa_begin wd_837 cal_Pa_begin wd_838 wd_839) cal_Pa_begin ⟨by decide, by decide⟩ (Nat.le_of_ble_eq_true rfl) (m_Pa_begin g F σ v15 x1) (fun σ16 => ?_)
    refine aw_aload_n 0 (kk := ?_)
    refine aw_gA 7 2 40 (hw := wd_213) (kk := fun v17 => ?_)
    refine aw_iload_n 2 (kk := ?_)
    refine ac_V (st := []) [.ref v17, .int x2] (ag_V 63 8 rc_Pa_begin wd_837 cal_Pa_begin wd_838 wd_839) cal_Pa_begin ⟨by decide, by decide⟩ (Nat.le_of_ble_eq_true rfl) (m_Pa_begin g F σ16 v17 x2) (fun σ18 => ?_)
    refine aw_aload_n 0 (kk := ?_)
    refine aw_gA 7 3 43 (hw := wd_214) (kk := fun v19 => ?_)
    refine aw_iload_n 3 (kk := ?_)
    refine ac_V (st := []) [.ref v19, .int x3] (ag_V 63 8 rc_Pa_begin wd_837 cal_Pa_begin wd_838 wd_839) cal_Pa_begin ⟨by decide, by decide⟩ (Nat.le_of_ble_eq_true rfl) (m_Pa_begin g F σ18 v19 x3) (fun σ20 => ?_)
    refine aw_aload_n 0 (kk := ?_)
    refine aw_iload_n 1 (kk := ?_)
    refine aw_iload_n 2 (kk := ?_)
    refine aw_aload_n 0 (kk := ?_)
    refine aw_gA 7 5 16 (hw := wd_216) (kk := fun v21 => ?_)
    refine ac_V (st := []) [.ref x0, .int x1, .int x2, .ref v21] (ag_V 67 7 rc_Tm_pairLines wd_841 cal_Tm_pairLines wd_843 ws_32) cal_Tm_pairLines ⟨by decide, by decide⟩ (Nat.le_of_ble_eq_true rfl) (m_Tm_pairLines g F σ20 x0 x1 x2 v21) (fun σ22 => ?_)
    refine aw_aload_n 0 (kk := ?_)
    refine aw_iload_n 1 (kk := ?_)
    refine aw_iload_n 3 (kk := ?_)
    refine aw_aload_n 0 (kk := ?_)
    refine aw_gA 7 6 19 (hw := wd_217) (kk := fun v23 => ?_)
    refine ac_V (st := []) [.ref x0, .int x1, .int x3, .ref v23] (ag_V 67 7 rc_Tm_pairLines wd_841 cal_Tm_pairLines wd_843 ws_32) cal_Tm_pairLines ⟨by decide, by decide⟩ (Nat.le_of_ble_eq_true rfl) (m_Tm_pairLines g F σ22 x0 x1 x3 v23) (fun σ24 => ?_)
    refine aw_aload_n 0 (kk := ?_)
    refine aw_aload_n 0 (kk := ?_)
    refine aw_gA 7 0 27 (hw := wd_211) (kk := fun v25 => ?_)
    refine aw_iload_n 1 (kk := ?_)
    refine ac_PI (st := [.ref x0]) [.ref v25, .int x1] (ag_V 71 2 rc_Bl_lineCount wd_845 cal_Bl_lineCount wd_846 wd_847) cal_Bl_lineCount ⟨by decide, by decide⟩ (Nat.le_of_ble_eq_true rfl) (m_Bl_lineCount g F σ24 v25 x1) (fun v26 => ?_)
    refine ac_V (st := []) [.ref x0, .int v26] (ag_V 75 7 rc_Tm_addStableLines wd_855 cal_Tm_addStableLines wd_857 ws_34) cal_Tm_addStableLines ⟨by decide, by decide⟩ (Nat.le_of_ble_eq_true rfl) (m_Tm_addStableLines g F σ24 x0 v26) (fun σ27 => ?_)
    refine aw_aload_n 0 (kk := ?_)
    refine ac_V (st := []) [.ref x0] (ag_V 78 7 rc_Tm_addLastPart wd_964 cal_Tm_addLastPart wd_966 ws_40) cal_Tm_addLastPart ⟨by decide, by decide⟩ (Nat.le_of_ble_eq_true rfl) (m_Tm_addLastPart g F σ27 x0) (fun σ28 => ?_)
    exact am_W.drop [true, false, true, false, true] (b_Tm_mergeTexts_j109 F x0 x2 t4 σ28)
def f_Tm_mergeTexts_j37 (F : Nat) (x0 : Nat) (x1 : Int32) (x2 : Int32) (x3 : Int32)  (σ : am_S) : Option (am_S) :=
  f_Tm_mergeTexts_j42 F x0 x1 x2 x3 1 σ
theorem b_Tm_mergeTexts_j37 {g : am_G} {σ0 : am_S} (F : Nat) (x0 : Nat) (x1 : Int32) (x2 : Int32) (x3 : Int32)   (σ : am_S) : am_W g mx_Tm_mergeTexts σ0 37 [some (.ref x0), some (.int x1), some (.int x2), some (.int x3), none] [] σ (f_Tm_mergeTexts_j37 F x0 x1 x2 x3 σ) am_kV := by
  unfold f_Tm_mergeTexts_j37
  refine aw_iconst 1 (v := 1) (kk := ?_)
  refine aw_goto 4 42 (kk := ?_)
  exact am_W.drop [true, true, true, true, false] (b_Tm_mergeTexts_j42 F x0 x1 x2 x3 1 σ)
def f_Tm_mergeTexts (F : Nat) (σ : am_S) (x0 : Nat) (x1 : Int32) (x2 : Int32) (x3 : Int32) : Option (am_S) :=
  am_ck σ 7 x0 (
  (f_Tm_startText F σ x0).bind fun σ1 =>
  (am_gA σ1 7 0 x0).bind fun v2 =>
  (f_Bl_isRough F σ1 v2 x1).bind fun v3 =>
  if v3 = 0 then
    (am_gA σ1 7 0 x0).bind fun v29 =>
    (f_Bl_isRough F σ1 v29 x2).bind fun v30 =>
    if v30 = 0 then
      (am_gA σ1 7 0 x0).bind fun v31 =>
      (f_Bl_isRough F σ1 v31 x3).bind fun v32 =>
      if v32 = 0 then
        f_Tm_mergeTexts_j42 F x0 x1 x2 x3 0 σ1
      else
        f_Tm_mergeTexts_j37 F x0 x1 x2 x3 σ1
    else
      f_Tm_mergeTexts_j37 F x0 x1 x2 x3 σ1
  else
    f_Tm_mergeTexts_j37 F x0 x1 x2 x3 σ1)
theorem rc_Tm_mergeTexts {F : Nat} {σ : am_S} {x0 : Nat} {x1 : Int32} {x2 : Int32} {x3 : Int32} (h : (f_Tm_mergeTexts F σ x0 x1 x2 x3).isSome = true) : ∃ fs, σ.2.2 x0 = some (.inr (7, fs)) := am_ck_some h
theorem m_Tm_mergeTexts (g : am_G) (F : Nat) (σ : am_S) (x0 : Nat) (x1 : Int32) (x2 : Int32) (x3 : Int32) : am_Met g mx_Tm_mergeTexts [.ref x0, .int x1, .int x2, .int x3] σ ((f_Tm_mergeTexts F σ x0 x1 x2 x3).bind am_kV) := by
  refine am_Met.of (lv := [some (.ref x0), some (.int x1), some (.int x2), some (.int x3), none]) (am_cc rfl (am_cc rfl (am_cc rfl (am_cc rfl am_c0)))) (Nat.le_of_ble_eq_true rfl) rfl (by decide) ?_
  unfold f_Tm_mergeTexts
  refine am_W.ck ?_
  refine aw_aload_n 0 (kk := ?_)
  refine ac_V (st := []) [.ref x0] (ag_V 54 7 rc_Tm_startText wd_829 cal_Tm_startText wd_831 ws_31) cal_Tm_startText ⟨by decide, by decide⟩ (Nat.le_of_ble_eq_true rfl) (m_Tm_startText g F σ x0) (fun σ1 => ?_)
  refine aw_aload_n 0 (kk := ?_)
  refine aw_gA 7 0 27 (hw := wd_211) (kk := fun v2 => ?_)
  refine aw_iload_n 1 (kk := ?_)
  refine ac_PI (st := []) [.ref v2, .int x1] (ag_V 57 2 rc_Bl_isRough wd_833 cal_Bl_isRough wd_834 wd_835) cal_Bl_isRough ⟨by decide, by decide⟩ (Nat.le_of_ble_eq_true rfl) (m_Bl_isRough g F σ1 v2 x1) (fun v3 => ?_)
  refine aw_if_ne 25 37 (kt := fun _ => ?_) (kf := fun _ => ?_)
  · exact am_W.drop [true, true, true, true, false] (b_Tm_mergeTexts_j37 F x0 x1 x2 x3 σ1)
  · refine aw_aload_n 0 (kk := ?_)
    refine aw_gA 7 0 27 (hw := wd_211) (kk := fun v29 => ?_)
    refine aw_iload_n 2 (kk := ?_)
    refine ac_PI (st := []) [.ref v29, .int x2] (ag_V 57 2 rc_Bl_isRough wd_833 cal_Bl_isRough wd_834 wd_835) cal_Bl_isRough ⟨by decide, by decide⟩ (Nat.le_of_ble_eq_true rfl) (m_Bl_isRough g F σ1 v29 x2) (fun v30 => ?_)
    refine aw_if_ne 14 37 (kt := fun _ => ?_) (kf := fun _ => ?_)
    · exact am_W.drop [true, true, true, true, false] (b_Tm_mergeTexts_j37 F x0 x1 x2 x3 σ1)
    · refine aw_aload_n 0 (kk := ?_)
      refine aw_gA 7 0 27 (hw := wd_211) (kk := fun v31 => ?_)
      refine aw_iload_n 3 (kk := ?_)
      refine ac_PI (st := []) [.ref v31, .int x3] (ag_V 57 2 rc_Bl_isRough wd_833 cal_Bl_isRough wd_834 wd_835) cal_Bl_isRough ⟨by decide, by decide⟩ (Nat.le_of_ble_eq_true rfl) (m_Bl_isRough g F σ1 v31 x3) (fun v32 => ?_)
      refine aw_if_eq 7 41 (kt := fun _ => ?_) (kf := fun _ => ?_)
      · refine aw_iconst 0 (v := 0) (kk := ?_)
        exact am_W.drop [true, true, true, true, false] (b_Tm_mergeTexts_j42 F x0 x1 x2 x3 0 σ1)
      · exact am_W.drop [true, true, true, true, false] (b_Tm_mergeTexts_j37 F x0 x1 x2 x3 σ1)
def f_Tm_hasConflict (F : Nat) (σ : am_S) (x0 : Nat) : Option (Int32) :=
  am_ck σ 7 x0 (
  (am_gI σ 7 9 x0).bind fun v1 =>
  if v1 = 0 ∨ v1 = 1 then some v1 else none)
theorem rc_Tm_hasConflict {F : Nat} {σ : am_S} {x0 : Nat} (h : (f_Tm_hasConflict F σ x0).isSome = true) : ∃ fs, σ.2.2 x0 = some (.inr (7, fs)) := am_ck_some h
theorem m_Tm_hasConflict (g : am_G) (F : Nat) (σ : am_S) (x0 : Nat) : am_Met g mx_Tm_hasConflict [.ref x0] σ ((f_Tm_hasConflict F σ x0).bind (am_kPI σ)) := by
  refine am_Met.of (lv := [some (.ref x0)]) (am_cc rfl am_c0) (Nat.le_of_ble_eq_true rfl) rfl (by decide) ?_
  unfold f_Tm_hasConflict
  refine am_W.ck ?_
  refine aw_aload_n 0 (kk := ?_)
  refine aw_gI 7 9 50 (hw := wd_220) (kk := fun v1 => ?_)
  exact aw_zretP
def f_Tm_text (F : Nat) (σ : am_S) (x0 : Nat) : Option (Nat) :=
  am_ck σ 7 x0 (
  (am_gA σ 7 7 x0).bind fun v1 =>
  some v1)
theorem rc_Tm_text {F : Nat} {σ : am_S} {x0 : Nat} (h : (f_Tm_text F σ x0).isSome = true) : ∃ fs, σ.2.2 x0 = some (.inr (7, fs)) := am_ck_some h
theorem m_Tm_text (g : am_G) (F : Nat) (σ : am_S) (x0 : Nat) : am_Met g mx_Tm_text [.ref x0] σ ((f_Tm_text F σ x0).bind (am_kPA σ)) := by
  refine am_Met.of (lv := [some (.ref x0)]) (am_cc rfl am_c0) (Nat.le_of_ble_eq_true rfl) rfl (by decide) ?_
  unfold f_Tm_text
  refine am_W.ck ?_
  refine aw_aload_n 0 (kk := ?_)
  refine aw_gA 7 7 23 (hw := wd_218) (kk := fun v1 => ?_)
  exact aw_aretP
def f_Tm_length (F : Nat) (σ : am_S) (x0 : Nat) : Option (Int32) :=
  am_ck σ 7 x0 (
  (am_gI σ 7 8 x0).bind fun v1 =>
  some v1)
theorem rc_Tm_length {F : Nat} {σ : am_S} {x0 : Nat} (h : (f_Tm_length F σ x0).isSome = true) : ∃ fs, σ.2.2 x0 = some (.inr (7, fs)) := am_ck_some h
theorem m_Tm_length (g : am_G) (F : Nat) (σ : am_S) (x0 : Nat) : am_Met g mx_Tm_length [.ref x0] σ ((f_Tm_length F σ x0).bind (am_kPI σ)) := by
  refine am_Met.of (lv := [some (.ref x0)]) (am_cc rfl am_c0) (Nat.le_of_ble_eq_true rfl) rfl (by decide) ?_
  unfold f_Tm_length
  refine am_W.ck ?_
  refine aw_aload_n 0 (kk := ?_)
  refine aw_gI 7 8 46 (hw := wd_219) (kk := fun v1 => ?_)
  exact aw_iretP
