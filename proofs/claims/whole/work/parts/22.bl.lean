/-! ===== printed by wip/gen ===== -/
def f_Lt_init (F : Nat) (σ : am_S) (x0 : Nat) (x1 : Nat) : Option (am_S) :=
  am_ck σ 3 x0 (
  am_b2 (am_na σ .int 32768) fun a1 σ2 =>
  (am_pA σ2 3 1 x0 a1).bind fun σ3 =>
  am_b2 (am_na σ3 .int 32768) fun a4 σ5 =>
  (am_pA σ5 3 2 x0 a4).bind fun σ6 =>
  am_b2 (am_na σ6 .int 32768) fun a7 σ8 =>
  (am_pA σ8 3 3 x0 a7).bind fun σ9 =>
  am_b2 (am_na σ9 .int 4096) fun a10 σ11 =>
  (am_pA σ11 3 4 x0 a10).bind fun σ12 =>
  am_b2 (am_na σ12 .int 32768) fun a13 σ14 =>
  (am_pA σ14 3 5 x0 a13).bind fun σ15 =>
  (am_pA σ15 3 0 x0 x1).bind fun σ16 =>
  some σ16)
theorem rc_Lt_init {F : Nat} {σ : am_S} {x0 : Nat} {x1 : Nat} (h : (f_Lt_init F σ x0 x1).isSome = true) : ∃ fs, σ.2.2 x0 = some (.inr (3, fs)) := am_ck_some h
theorem m_Lt_init (g : am_G) (F : Nat) (σ : am_S) (x0 : Nat) (x1 : Nat) : am_Met g mx_Lt_init [.ref x0, .ref x1] σ ((f_Lt_init F σ x0 x1).bind am_kV) := by
  refine am_Met.of (lv := [some (.ref x0), some (.ref x1)]) (am_cc rfl (am_cc rfl am_c0)) (Nat.le_of_ble_eq_true rfl) rfl (by decide) ?_
  unfold f_Lt_init
  refine am_W.ck ?_
  refine aw_aload_n 0 (kk := ?_)
  refine aw_obj 3 (hw := wd_68) (hw2 := wd_33) (hw3 := wd_34) (hr := Nat.le_of_ble_eq_true rfl) (kk := ?_)
  refine aw_aload_n 0 (kk := ?_)
  refine aw_ldc 9 (v := 32768) (hw := wd_69) (kk := ?_)
  refine aw_na2 .int (hw := wd_55) (kk := fun a1 σ2 => ?_)
  refine aw_pAF 3 1 10 (hw := wd_71) (kk := fun σ3 => ?_)
  refine aw_aload_n 0 (kk := ?_)
  refine aw_ldc 9 (v := 32768) (hw := wd_69) (kk := ?_)
  refine aw_na2 .int (hw := wd_55) (kk := fun a4 σ5 => ?_)
  refine aw_pAF 3 2 16 (hw := wd_73) (kk := fun σ6 => ?_)
  refine aw_aload_n 0 (kk := ?_)
  refine aw_ldc 9 (v := 32768) (hw := wd_69) (kk := ?_)
  refine aw_na2 .int (hw := wd_55) (kk := fun a7 σ8 => ?_)
  refine aw_pAF 3 3 19 (hw := wd_75) (kk := fun σ9 => ?_)
  refine aw_aload_n 0 (kk := ?_)
  refine aw_sipush 4096 (v := 4096) (kk := ?_)
  refine aw_na2 .int (hw := wd_55) (kk := fun a10 σ11 => ?_)
  refine aw_pAF 3 4 22 (hw := wd_77) (kk := fun σ12 => ?_)
  refine aw_aload_n 0 (kk := ?_)
  refine aw_ldc 9 (v := 32768) (hw := wd_69) (kk := ?_)
  refine aw_na2 .int (hw := wd_55) (kk := fun a13 σ14 => ?_)
  refine aw_pAF 3 5 25 (hw := wd_78) (kk := fun σ15 => ?_)
  refine aw_aload_n 0 (kk := ?_)
  refine aw_aload_n 1 (kk := ?_)
  refine aw_pAF 3 0 28 (hw := wd_70) (kk := fun σ16 => ?_)
  exact aw_vret
def f_Bl_init (F : Nat) (σ : am_S) (x0 : Nat) : Option (am_S) :=
  am_ck σ 2 x0 (
  am_b2 (am_na σ .byte 32768) fun a1 σ2 =>
  (am_pA σ2 2 0 x0 a1).bind fun σ3 =>
  am_b2 (am_na σ3 .int 501) fun a4 σ5 =>
  (am_pA σ5 2 1 x0 a4).bind fun σ6 =>
  am_b2 (am_na σ6 .boolean 500) fun a7 σ8 =>
  (am_pA σ8 2 2 x0 a7).bind fun σ9 =>
  am_b2 (am_na σ9 .int 500) fun a10 σ11 =>
  (am_pA σ11 2 3 x0 a10).bind fun σ12 =>
  am_b2 (am_na σ12 .int 500) fun a13 σ14 =>
  (am_pA σ14 2 4 x0 a13).bind fun σ15 =>
  (am_gA (am_no σ15 3) 2 0 x0).bind fun v16 =>
  (f_Lt_init F (am_no σ15 3) σ15.1 v16).bind fun σ17 =>
  (am_pA σ17 2 5 x0 σ15.1).bind fun σ18 =>
  am_b2 (am_na σ18 .int 32768) fun a19 σ20 =>
  (am_pA σ20 2 6 x0 a19).bind fun σ21 =>
  some σ21)
theorem rc_Bl_init {F : Nat} {σ : am_S} {x0 : Nat} (h : (f_Bl_init F σ x0).isSome = true) : ∃ fs, σ.2.2 x0 = some (.inr (2, fs)) := am_ck_some h
theorem m_Bl_init (g : am_G) (F : Nat) (σ : am_S) (x0 : Nat) : am_Met g mx_Bl_init [.ref x0] σ ((f_Bl_init F σ x0).bind am_kV) := by
  refine am_Met.of (lv := [some (.ref x0)]) (am_cc rfl am_c0) (Nat.le_of_ble_eq_true rfl) rfl (by decide) ?_
  unfold f_Bl_init
  refine am_W.ck ?_
  refine aw_aload_n 0 (kk := ?_)
  refine aw_obj 3 (hw := wd_61) (hw2 := wd_33) (hw3 := wd_34) (hr := Nat.le_of_ble_eq_true rfl) (kk := ?_)
  refine aw_aload_n 0 (kk := ?_)
  refine aw_ldc 9 (v := 32768) (hw := wd_62) (kk := ?_)
  refine aw_na2 .byte (hw := wd_54) (kk := fun a1 σ2 => ?_)
  refine aw_pAF 2 0 10 (hw := wd_97) (kk := fun σ3 => ?_)
  refine aw_aload_n 0 (kk := ?_)
  refine aw_sipush 501 (v := 501) (kk := ?_)
  refine aw_na2 .int (hw := wd_55) (kk := fun a4 σ5 => ?_)
  refine aw_pAF 2 1 16 (hw := wd_98) (kk := fun σ6 => ?_)
  refine aw_aload_n 0 (kk := ?_)
  refine aw_sipush 500 (v := 500) (kk := ?_)
  refine aw_na2 .boolean (hw := wd_96) (kk := fun a7 σ8 => ?_)
  refine aw_pAF 2 2 20 (hw := wd_99) (kk := fun σ9 => ?_)
  refine aw_aload_n 0 (kk := ?_)
  refine aw_sipush 500 (v := 500) (kk := ?_)
  refine aw_na2 .int (hw := wd_55) (kk := fun a10 σ11 => ?_)
  refine aw_pAF 2 3 24 (hw := wd_100) (kk := fun σ12 => ?_)
  refine aw_aload_n 0 (kk := ?_)
  refine aw_sipush 500 (v := 500) (kk := ?_)
  refine aw_na2 .int (hw := wd_55) (kk := fun a13 σ14 => ?_)
  refine aw_pAF 2 4 27 (hw := wd_101) (kk := fun σ15 => ?_)
  refine aw_aload_n 0 (kk := ?_)
  refine aw_new 3 30 (hw := wd_63) (hw2 := wd_64) (hw3 := wd_4) (kk := ?_)
  refine aw_dup (kk := ?_)
  refine aw_aload_n 0 (kk := ?_)
  refine aw_gA 2 0 10 (hw := wd_97) (kk := fun v16 => ?_)
  refine ac_V (st := [.ref σ15.1, .ref x0]) [.ref σ15.1, .ref v16] (ag_I 32 wd_65 cal_Lt_init wd_66) cal_Lt_init ⟨by decide, by decide⟩ (Nat.le_of_ble_eq_true rfl) (m_Lt_init g F (am_no σ15 3) σ15.1 v16) (fun σ17 => ?_)
  refine aw_pAF 2 5 35 (hw := wd_102) (kk := fun σ18 => ?_)
  refine aw_aload_n 0 (kk := ?_)
  refine aw_ldc 9 (v := 32768) (hw := wd_62) (kk := ?_)
  refine aw_na2 .int (hw := wd_55) (kk := fun a19 σ20 => ?_)
  refine aw_pAF 2 6 39 (hw := wd_103) (kk := fun σ21 => ?_)
  exact aw_vret
def f_Bl_lengthOf (F : Nat) (σ : am_S) (x0 : Nat) (x1 : Int32) : Option (Int32) :=
  am_ck σ 2 x0 (
  (am_gA σ 2 1 x0).bind fun v1 =>
  (am_lI σ .int v1 (x1 + 1)).bind fun v2 =>
  (am_gA σ 2 1 x0).bind fun v3 =>
  (am_lI σ .int v3 x1).bind fun v4 =>
  some (v2 - v4))
theorem rc_Bl_lengthOf {F : Nat} {σ : am_S} {x0 : Nat} {x1 : Int32} (h : (f_Bl_lengthOf F σ x0 x1).isSome = true) : ∃ fs, σ.2.2 x0 = some (.inr (2, fs)) := am_ck_some h
theorem m_Bl_lengthOf (g : am_G) (F : Nat) (σ : am_S) (x0 : Nat) (x1 : Int32) : am_Met g mx_Bl_lengthOf [.ref x0, .int x1] σ ((f_Bl_lengthOf F σ x0 x1).bind (am_kPI σ)) := by
  refine am_Met.of (lv := [some (.ref x0), some (.int x1)]) (am_cc rfl (am_cc rfl am_c0)) (Nat.le_of_ble_eq_true rfl) rfl (by decide) ?_
  unfold f_Bl_lengthOf
  refine am_W.ck ?_
  refine aw_aload_n 0 (kk := ?_)
  refine aw_gA 2 1 16 (hw := wd_98) (kk := fun v1 => ?_)
  refine aw_iload_n 1 (kk := ?_)
  refine aw_iconst 1 (v := 1) (kk := ?_)
  refine aw_iadd (kk := ?_)
  refine aw_lI (kk := fun v2 => ?_)
  refine aw_aload_n 0 (kk := ?_)
  refine aw_gA 2 1 16 (hw := wd_98) (kk := fun v3 => ?_)
  refine aw_iload_n 1 (kk := ?_)
  refine aw_lI (kk := fun v4 => ?_)
  refine aw_isub (kk := ?_)
  exact aw_iretP
def f_Bl_find_l3 (σ : am_S) (F : Nat) (x0 : Nat) (x1 : Nat) (x2 : Int32) (x3 : Int32)  : Nat → Int32 → Option (Int32)
  | 0, _ => none
  | n + 1, x4 =>
    (am_gI σ 2 7 x0).bind fun v1 =>
    if v1 ≤ x4 then
      some (-1)
    else
      (f_Bl_lengthOf F σ x0 x4).bind fun v2 =>
      if v2 = x3 then
        (am_gA σ 2 0 x0).bind fun v3 =>
        (am_gA σ 2 1 x0).bind fun v4 =>
        (am_lI σ .int v4 x4).bind fun v5 =>
        (f_Rw_commonBeginning F σ v3 v5 x1 x2 x3).bind fun v6 =>
        if v6 = x3 then
          some x4
        else
          f_Bl_find_l3 σ F x0 x1 x2 x3 n (x4 + 1)
      else
        f_Bl_find_l3 σ F x0 x1 x2 x3 n (x4 + 1)
theorem b_Bl_find_l3 {g : am_G} {σ0 σ : am_S} (F : Nat) (x0 : Nat) (x1 : Nat) (x2 : Int32) (x3 : Int32)   : ∀ (n : Nat) (x4 : Int32), am_W g mx_Bl_find σ0 3 [some (.ref x0), some (.ref x1), some (.int x2), some (.int x3), some (.int x4)] [] σ (f_Bl_find_l3 σ F x0 x1 x2 x3 n x4) (am_kPI σ) := by
  intro n
  induction n with
  | zero =>
    intro x4
    rw [f_Bl_find_l3]
    exact am_W.none
  | succ n ih =>
    intro x4
    rw [f_Bl_find_l3]
    refine aw_iload 4 (kk := ?_)
    refine aw_aload_n 0 (kk := ?_)
    refine aw_gI 2 7 42 (hw := wd_104) (kk := fun v1 => ?_)
    refine aw_icmp_ge 43 52 (kt := fun _ => ?_) (kf := fun _ => ?_)
    · refine aw_iconst (-1) (v := (-1)) (kk := ?_)
      exact aw_iretP
    · refine aw_aload_n 0 (kk := ?_)
      refine aw_iload 4 (kk := ?_)
      refine ac_PI (st := []) [.ref x0, .int x4] (ag_V 50 2 rc_Bl_lengthOf wd_592 cal_Bl_lengthOf wd_593 wd_594) cal_Bl_lengthOf ⟨by decide, by decide⟩ (Nat.le_of_ble_eq_true rfl) (m_Bl_lengthOf g F σ x0 x4) (fun v2 => ?_)
      refine aw_iload_n 3 (kk := ?_)
      refine aw_icmp_ne 27 46 (kt := fun _ => ?_) (kf := fun _ => ?_)
      · refine aw_iinc 4 1 (v := 1) (kk := ?_)
        refine aw_goto (-46) 3 (kk := ?_)
        exact am_W.drop [true, true, true, true, true] (ih (x4 + 1))
      · refine aw_aload_n 0 (kk := ?_)
        refine aw_gA 2 0 10 (hw := wd_97) (kk := fun v3 => ?_)
        refine aw_aload_n 0 (kk := ?_)
        refine aw_gA 2 1 16 (hw := wd_98) (kk := fun v4 => ?_)
        refine aw_iload 4 (kk := ?_)
        refine aw_lI (kk := fun v5 => ?_)
        refine aw_aload_n 1 (kk := ?_)
        refine aw_iload_n 2 (kk := ?_)
        refine aw_iload_n 3 (kk := ?_)
        refine ac_PI (st := []) [.ref v3, .int v5, .ref x1, .int x2, .int x3] (ag_S 54 wd_596 cal_Rw_commonBeginning wd_565) cal_Rw_commonBeginning ⟨by decide, by decide⟩ (Nat.le_of_ble_eq_true rfl) (m_Rw_commonBeginning g F σ v3 v5 x1 x2 x3) (fun v6 => ?_)
        refine aw_iload_n 3 (kk := ?_)
        refine aw_icmp_ne 6 46 (kt := fun _ => ?_) (kf := fun _ => ?_)
        · refine aw_iinc 4 1 (v := 1) (kk := ?_)
          refine aw_goto (-46) 3 (kk := ?_)
          exact am_W.drop [true, true, true, true, true] (ih (x4 + 1))
        · refine aw_iload 4 (kk := ?_)
          exact aw_iretP
def f_Bl_find (F : Nat) (σ : am_S) (x0 : Nat) (x1 : Nat) (x2 : Int32) (x3 : Int32) : Option (Int32) :=
  am_ck σ 2 x0 (
  f_Bl_find_l3 σ F x0 x1 x2 x3 F 0)
theorem rc_Bl_find {F : Nat} {σ : am_S} {x0 : Nat} {x1 : Nat} {x2 : Int32} {x3 : Int32} (h : (f_Bl_find F σ x0 x1 x2 x3).isSome = true) : ∃ fs, σ.2.2 x0 = some (.inr (2, fs)) := am_ck_some h
theorem m_Bl_find (g : am_G) (F : Nat) (σ : am_S) (x0 : Nat) (x1 : Nat) (x2 : Int32) (x3 : Int32) : am_Met g mx_Bl_find [.ref x0, .ref x1, .int x2, .int x3] σ ((f_Bl_find F σ x0 x1 x2 x3).bind (am_kPI σ)) := by
  refine am_Met.of (lv := [some (.ref x0), some (.ref x1), some (.int x2), some (.int x3), none]) (am_cc rfl (am_cc rfl (am_cc rfl (am_cc rfl am_c0)))) (Nat.le_of_ble_eq_true rfl) rfl (by decide) ?_
  unfold f_Bl_find
  refine am_W.ck ?_
  refine aw_iconst 0 (v := 0) (kk := ?_)
  refine aw_istore 4 (kk := ?_)
  exact am_W.drop [true, true, true, true, true] (b_Bl_find_l3 F x0 x1 x2 x3 F 0)
def f_Bl_totalLength (F : Nat) (σ : am_S) (x0 : Nat) : Option (Int32) :=
  am_ck σ 2 x0 (
  (am_gA σ 2 1 x0).bind fun v1 =>
  (am_gI σ 2 7 x0).bind fun v2 =>
  (am_lI σ .int v1 v2).bind fun v3 =>
  some v3)
theorem rc_Bl_totalLength {F : Nat} {σ : am_S} {x0 : Nat} (h : (f_Bl_totalLength F σ x0).isSome = true) : ∃ fs, σ.2.2 x0 = some (.inr (2, fs)) := am_ck_some h
theorem m_Bl_totalLength (g : am_G) (F : Nat) (σ : am_S) (x0 : Nat) : am_Met g mx_Bl_totalLength [.ref x0] σ ((f_Bl_totalLength F σ x0).bind (am_kPI σ)) := by
  refine am_Met.of (lv := [some (.ref x0)]) (am_cc rfl am_c0) (Nat.le_of_ble_eq_true rfl) rfl (by decide) ?_
  unfold f_Bl_totalLength
  refine am_W.ck ?_
  refine aw_aload_n 0 (kk := ?_)
  refine aw_gA 2 1 16 (hw := wd_98) (kk := fun v1 => ?_)
  refine aw_aload_n 0 (kk := ?_)
  refine aw_gI 2 7 42 (hw := wd_104) (kk := fun v2 => ?_)
  refine aw_lI (kk := fun v3 => ?_)
  exact aw_iretP
def f_Bl_looksRough_l5 (σ : am_S) (F : Nat) (x0 : Nat) (x2 : Int32) (k52 : Int32 → Option (Int32)) : Nat → Int32 → Int32 → Option (Int32)
  | 0, _, _ => none
  | n + 1, x3, x4 =>
    if x2 ≤ x4 then
      k52 x3
    else
      (am_gA σ 2 0 x0).bind fun v1 =>
      (am_lI σ .byte v1 x4).bind fun v2 =>
      if v2 = 0 then
        some 1
      else
        (am_gA σ 2 0 x0).bind fun v3 =>
        (am_lI σ .byte v3 x4).bind fun v4 =>
        if v4 = 10 then
          f_Bl_looksRough_l5 σ F x0 x2 k52 n (x3 + 1) (x4 + 1)
        else
          if x4 = (x2 - 1) then
            f_Bl_looksRough_l5 σ F x0 x2 k52 n (x3 + 1) (x4 + 1)
          else
            f_Bl_looksRough_l5 σ F x0 x2 k52 n x3 (x4 + 1)
theorem b_Bl_looksRough_l5 {g : am_G} {σ0 σ : am_S} (F : Nat) (x0 : Nat) (x2 : Int32) (k52 : Int32 → Option (Int32)) (h52 : ∀ (y3 : Int32), am_W g mx_Bl_looksRough σ0 52 [none, none, none, some (.int y3), none] [] σ (k52 y3) (am_kPI σ)) : ∀ (n : Nat) (x3 : Int32) (x4 : Int32), am_W g mx_Bl_looksRough σ0 5 [some (.ref x0), none, some (.int x2), some (.int x3), some (.int x4)] [] σ (f_Bl_looksRough_l5 σ F x0 x2 k52 n x3 x4) (am_kPI σ) := by
  intro n
  induction n with
  | zero =>
    intro x3 x4
    rw [f_Bl_looksRough_l5]
    exact am_W.none
  | succ n ih =>
    intro x3 x4
    rw [f_Bl_looksRough_l5]
    refine aw_iload 4 (kk := ?_)
    refine aw_iload_n 2 (kk := ?_)
    refine aw_icmp_ge 44 52 (kt := fun _ => ?_) (kf := fun _ => ?_)
    · exact am_W.drop [false, false, false, true, false] (h52 x3)
    · refine aw_aload_n 0 (kk := ?_)
      refine aw_gA 2 0 10 (hw := wd_97) (kk := fun v1 => ?_)
      refine aw_iload 4 (kk := ?_)
      refine aw_lB (kk := fun v2 => ?_)
      refine aw_if_ne 5 23 (kt := fun _ => ?_) (kf := fun _ => ?_)
      · refine aw_aload_n 0 (kk := ?_)
        refine aw_gA 2 0 10 (hw := wd_97) (kk := fun v3 => ?_)
        refine aw_iload 4 (kk := ?_)
        refine aw_lB (kk := fun v4 => ?_)
        refine aw_bipush 10 (v := 10) (kk := ?_)
        refine aw_icmp_eq 11 43 (kt := fun _ => ?_) (kf := fun _ => ?_)
        · refine aw_iinc 3 1 (v := 1) (kk := ?_)
          refine aw_iinc 4 1 (v := 1) (kk := ?_)
          refine aw_goto (-44) 5 (kk := ?_)
          exact am_W.drop [true, false, true, true, true] (ih (x3 + 1) (x4 + 1))
        · refine aw_iload 4 (kk := ?_)
          refine aw_iload_n 2 (kk := ?_)
          refine aw_iconst 1 (v := 1) (kk := ?_)
          refine aw_isub (kk := ?_)
          refine aw_icmp_ne 6 46 (kt := fun _ => ?_) (kf := fun _ => ?_)
          · refine aw_iinc 4 1 (v := 1) (kk := ?_)
            refine aw_goto (-44) 5 (kk := ?_)
            exact am_W.drop [true, false, true, true, true] (ih x3 (x4 + 1))
          · refine aw_iinc 3 1 (v := 1) (kk := ?_)
            refine aw_iinc 4 1 (v := 1) (kk := ?_)
            refine aw_goto (-44) 5 (kk := ?_)
            exact am_W.drop [true, false, true, true, true] (ih (x3 + 1) (x4 + 1))
      · refine aw_iconst 1 (v := 1) (kk := ?_)
        exact aw_zretPL (by decide)
def f_Bl_looksRough_j52 (σ : am_S) (F : Nat) (x3 : Int32)  : Option (Int32) :=
  if x3 ≤ 200 then
    some 0
  else
    some 1
theorem b_Bl_looksRough_j52 {g : am_G} {σ0 σ : am_S} (F : Nat) (x3 : Int32)   : am_W g mx_Bl_looksRough σ0 52 [none, none, none, some (.int x3), none] [] σ (f_Bl_looksRough_j52 σ F x3) (am_kPI σ) := by
  unfold f_Bl_looksRough_j52
  refine aw_iload_n 3 (kk := ?_)
  refine aw_sipush 200 (v := 200) (kk := ?_)
  refine aw_icmp_le 7 63 (kt := fun _ => ?_) (kf := fun _ => ?_)
  · refine aw_iconst 0 (v := 0) (kk := ?_)
    exact aw_zretPL (by decide)
  · refine aw_iconst 1 (v := 1) (kk := ?_)
    refine aw_goto 4 64 (kk := ?_)
    exact aw_zretPL (by decide)
def f_Bl_looksRough (F : Nat) (σ : am_S) (x0 : Nat) (x1 : Int32) (x2 : Int32) : Option (Int32) :=
  am_ck σ 2 x0 (
  f_Bl_looksRough_l5 σ F x0 x2 (fun y3 => f_Bl_looksRough_j52 σ F y3) F 0 x1)
theorem rc_Bl_looksRough {F : Nat} {σ : am_S} {x0 : Nat} {x1 : Int32} {x2 : Int32} (h : (f_Bl_looksRough F σ x0 x1 x2).isSome = true) : ∃ fs, σ.2.2 x0 = some (.inr (2, fs)) := am_ck_some h
theorem m_Bl_looksRough (g : am_G) (F : Nat) (σ : am_S) (x0 : Nat) (x1 : Int32) (x2 : Int32) : am_Met g mx_Bl_looksRough [.ref x0, .int x1, .int x2] σ ((f_Bl_looksRough F σ x0 x1 x2).bind (am_kPI σ)) := by
  refine am_Met.of (lv := [some (.ref x0), some (.int x1), some (.int x2), none, none]) (am_cc rfl (am_cc rfl (am_cc rfl am_c0))) (Nat.le_of_ble_eq_true rfl) rfl (by decide) ?_
  unfold f_Bl_looksRough
  refine am_W.ck ?_
  refine aw_iconst 0 (v := 0) (kk := ?_)
  refine aw_istore_n 3 (kk := ?_)
  refine aw_iload_n 1 (kk := ?_)
  refine aw_istore 4 (kk := ?_)
  exact am_W.drop [true, false, true, true, true] (b_Bl_looksRough_l5 F x0 x2 (fun y3 => f_Bl_looksRough_j52 σ F y3) (fun y3 => am_W.drop [false, false, false, true, false] (b_Bl_looksRough_j52 F y3)) F 0 x1)
def f_Lt_bucketOf_l5 (σ : am_S) (F : Nat) (x0 : Nat) (x1 : Int32) (x2 : Int32) (k32 : Int32 → Option (Int32)) : Nat → Int32 → Int32 → Option (Int32)
  | 0, _, _ => none
  | n + 1, x3, x4 =>
    if x2 ≤ x4 then
      k32 x3
    else
      (am_gA σ 3 0 x0).bind fun v1 =>
      (am_lI σ .byte v1 (x1 + x4)).bind fun v2 =>
      f_Lt_bucketOf_l5 σ F x0 x1 x2 k32 n ((x3 * 31) + v2) (x4 + 1)
theorem b_Lt_bucketOf_l5 {g : am_G} {σ0 σ : am_S} (F : Nat) (x0 : Nat) (x1 : Int32) (x2 : Int32) (k32 : Int32 → Option (Int32)) (h32 : ∀ (y3 : Int32), am_W g mx_Lt_bucketOf σ0 32 [none, none, none, some (.int y3), none] [] σ (k32 y3) (am_kPI σ)) : ∀ (n : Nat) (x3 : Int32) (x4 : Int32), am_W g mx_Lt_bucketOf σ0 5 [some (.ref x0), some (.int x1), some (.int x2), some (.int x3), some (.int x4)] [] σ (f_Lt_bucketOf_l5 σ F x0 x1 x2 k32 n x3 x4) (am_kPI σ) := by
  intro n
  induction n with
  | zero =>
    intro x3 x4
    rw [f_Lt_bucketOf_l5]
    exact am_W.none
  | succ n ih =>
    intro x3 x4
    rw [f_Lt_bucketOf_l5]
    refine aw_iload 4 (kk := ?_)
    refine aw_iload_n 2 (kk := ?_)
    refine aw_icmp_ge 24 32 (kt := fun _ => ?_) (kf := fun _ => ?_)
    · exact am_W.drop [false, false, false, true, false] (h32 x3)
    · refine aw_iload_n 3 (kk := ?_)
      refine aw_bipush 31 (v := 31) (kk := ?_)
      refine aw_imul (kk := ?_)
      refine aw_aload_n 0 (kk := ?_)
      refine aw_gA 3 0 28 (hw := wd_70) (kk := fun v1 => ?_)
      refine aw_iload_n 1 (kk := ?_)
      refine aw_iload 4 (kk := ?_)
      refine aw_iadd (kk := ?_)
      refine aw_lB (kk := fun v2 => ?_)
      refine aw_iadd (kk := ?_)
      refine aw_istore_n 3 (kk := ?_)
      refine aw_iinc 4 1 (v := 1) (kk := ?_)
      refine aw_goto (-24) 5 (kk := ?_)
      exact am_W.drop [true, true, true, true, true] (ih ((x3 * 31) + v2) (x4 + 1))
def f_Lt_bucketOf_j32 (σ : am_S) (F : Nat) (x3 : Int32)  : Option (Int32) :=
  some ((x3 ^^^ (am_ushr x3 12)) &&& 4095)
theorem b_Lt_bucketOf_j32 {g : am_G} {σ0 σ : am_S} (F : Nat) (x3 : Int32)   : am_W g mx_Lt_bucketOf σ0 32 [none, none, none, some (.int x3), none] [] σ (f_Lt_bucketOf_j32 σ F x3) (am_kPI σ) := by
  unfold f_Lt_bucketOf_j32
  refine aw_iload_n 3 (kk := ?_)
  refine aw_iload_n 3 (kk := ?_)
  refine aw_bipush 12 (v := 12) (kk := ?_)
  refine aw_iushr (kk := ?_)
  refine aw_ixor (kk := ?_)
  refine aw_sipush 4095 (v := 4095) (kk := ?_)
  refine aw_iand (kk := ?_)
  exact aw_iretP
def f_Lt_bucketOf (F : Nat) (σ : am_S) (x0 : Nat) (x1 : Int32) (x2 : Int32) : Option (Int32) :=
  am_ck σ 3 x0 (
  f_Lt_bucketOf_l5 σ F x0 x1 x2 (fun y3 => f_Lt_bucketOf_j32 σ F y3) F x2 0)
theorem rc_Lt_bucketOf {F : Nat} {σ : am_S} {x0 : Nat} {x1 : Int32} {x2 : Int32} (h : (f_Lt_bucketOf F σ x0 x1 x2).isSome = true) : ∃ fs, σ.2.2 x0 = some (.inr (3, fs)) := am_ck_some h
theorem m_Lt_bucketOf (g : am_G) (F : Nat) (σ : am_S) (x0 : Nat) (x1 : Int32) (x2 : Int32) : am_Met g mx_Lt_bucketOf [.ref x0, .int x1, .int x2] σ ((f_Lt_bucketOf F σ x0 x1 x2).bind (am_kPI σ)) := by
  refine am_Met.of (lv := [some (.ref x0), some (.int x1), some (.int x2), none, none]) (am_cc rfl (am_cc rfl (am_cc rfl am_c0))) (Nat.le_of_ble_eq_true rfl) rfl (by decide) ?_
  unfold f_Lt_bucketOf
  refine am_W.ck ?_
  refine aw_iload_n 2 (kk := ?_)
  refine aw_istore_n 3 (kk := ?_)
  refine aw_iconst 0 (v := 0) (kk := ?_)
  refine aw_istore 4 (kk := ?_)
  exact am_W.drop [true, true, true, true, true] (b_Lt_bucketOf_l5 F x0 x1 x2 (fun y3 => f_Lt_bucketOf_j32 σ F y3) (fun y3 => am_W.drop [false, false, false, true, false] (b_Lt_bucketOf_j32 F y3)) F x2 0)
def f_Lt_findKind_j69 (σ : am_S) (F : Nat) (x0 : Nat) (x5 : Int32) (x6 : Int32) (k11 : Int32 → Int32 → Option (Int32)) : Option (Int32) :=
  (am_gA σ 3 5 x0).bind fun v6 =>
  (am_lI σ .int v6 x6).bind fun v7 =>
  k11 v7 (x5 + 1)
theorem b_Lt_findKind_j69 {g : am_G} {σ0 σ : am_S} (F : Nat) (x0 : Nat) (x2 : Int32) (x3 : Int32) (x5 : Int32) (x6 : Int32) (k11 : Int32 → Int32 → Option (Int32)) (h11 : ∀ (y4 : Int32) (y5 : Int32), am_W g mx_Lt_findKind σ0 11 [some (.ref x0), none, some (.int x2), some (.int x3), some (.int y4), some (.int y5), none] [] σ (k11 y4 y5) (am_kPI σ)) : am_W g mx_Lt_findKind σ0 69 [some (.ref x0), none, some (.int x2), some (.int x3), none, some (.int x5), some (.int x6)] [] σ (f_Lt_findKind_j69 σ F x0 x5 x6 k11) (am_kPI σ) := by
  unfold f_Lt_findKind_j69
  refine aw_aload_n 0 (kk := ?_)
  refine aw_gA 3 5 25 (hw := wd_78) (kk := fun v6 => ?_)
  refine aw_iload 6 (kk := ?_)
  refine aw_lI (kk := fun v7 => ?_)
  refine aw_istore 4 (kk := ?_)
  refine aw_iinc 5 1 (v := 1) (kk := ?_)
  refine aw_goto (-70) 11 (kk := ?_)
  exact am_W.drop [true, false, true, true, true, true, false] (h11 v7 (x5 + 1))
def f_Lt_findKind_l11 (σ : am_S) (F : Nat) (x0 : Nat) (x2 : Int32) (x3 : Int32)  : Nat → Int32 → Int32 → Option (Int32)
  | 0, _, _ => none
  | n + 1, x4, x5 =>
    (am_gI σ 3 6 x0).bind fun v3 =>
    if v3 ≤ x5 then
      some (-1)
    else
      if x4 ≤ 0 then
        some (-1)
      else
        (am_gA σ 3 2 x0).bind fun v4 =>
        (am_lI σ .int v4 (x4 - 1)).bind fun v5 =>
        if v5 = x3 then
          (am_gA σ 3 0 x0).bind fun v8 =>
          (am_gA σ 3 1 x0).bind fun v9 =>
          (am_lI σ .int v9 (x4 - 1)).bind fun v10 =>
          (am_gA σ 3 0 x0).bind fun v11 =>
          (f_Rw_commonBeginning F σ v8 v10 v11 x2 x3).bind fun v12 =>
          if v12 = x3 then
            some (x4 - 1)
          else
            f_Lt_findKind_j69 σ F x0 x5 (x4 - 1) (fun y4 y5 => f_Lt_findKind_l11 σ F x0 x2 x3 n y4 y5)
        else
          f_Lt_findKind_j69 σ F x0 x5 (x4 - 1) (fun y4 y5 => f_Lt_findKind_l11 σ F x0 x2 x3 n y4 y5)
theorem b_Lt_findKind_l11 {g : am_G} {σ0 σ : am_S} (F : Nat) (x0 : Nat) (x2 : Int32) (x3 : Int32)   : ∀ (n : Nat) (x4 : Int32) (x5 : Int32), am_W g mx_Lt_findKind σ0 11 [some (.ref x0), none, some (.int x2), some (.int x3), some (.int x4), some (.int x5), none] [] σ (f_Lt_findKind_l11 σ F x0 x2 x3 n x4 x5) (am_kPI σ) := by
  intro n
  induction n with
  | zero =>
    intro x4 x5
    rw [f_Lt_findKind_l11]
    exact am_W.none
  | succ n ih =>
    intro x4 x5
    rw [f_Lt_findKind_l11]
    refine aw_iload 5 (kk := ?_)
    refine aw_aload_n 0 (kk := ?_)
    refine aw_gI 3 6 40 (hw := wd_79) (kk := fun v3 => ?_)
    refine aw_icmp_ge 67 84 (kt := fun _ => ?_) (kf := fun _ => ?_)
    · refine aw_iconst (-1) (v := (-1)) (kk := ?_)
      exact aw_iretP
    · refine aw_iload 4 (kk := ?_)
      refine aw_if_le 62 84 (kt := fun _ => ?_) (kf := fun _ => ?_)
      · refine aw_iconst (-1) (v := (-1)) (kk := ?_)
        exact aw_iretP
      · refine aw_iload 4 (kk := ?_)
        refine aw_iconst 1 (v := 1) (kk := ?_)
        refine aw_isub (kk := ?_)
        refine aw_istore 6 (kk := ?_)
        refine aw_aload_n 0 (kk := ?_)
        refine aw_gA 3 2 16 (hw := wd_73) (kk := fun v4 => ?_)
        refine aw_iload 6 (kk := ?_)
        refine aw_lI (kk := fun v5 => ?_)
        refine aw_iload_n 3 (kk := ?_)
        refine aw_icmp_ne 30 69 (kt := fun _ => ?_) (kf := fun _ => ?_)
        · exact am_W.drop [true, false, true, true, false, true, true] (b_Lt_findKind_j69 F x0 x2 x3 x5 (x4 - 1) (fun y4 y5 => f_Lt_findKind_l11 σ F x0 x2 x3 n y4 y5) (fun y4 y5 => am_W.drop [true, false, true, true, true, true, false] (ih y4 y5)))
        · refine aw_aload_n 0 (kk := ?_)
          refine aw_gA 3 0 28 (hw := wd_70) (kk := fun v8 => ?_)
          refine aw_aload_n 0 (kk := ?_)
          refine aw_gA 3 1 10 (hw := wd_71) (kk := fun v9 => ?_)
          refine aw_iload 6 (kk := ?_)
          refine aw_lI (kk := fun v10 => ?_)
          refine aw_aload_n 0 (kk := ?_)
          refine aw_gA 3 0 28 (hw := wd_70) (kk := fun v11 => ?_)
          refine aw_iload_n 2 (kk := ?_)
          refine aw_iload_n 3 (kk := ?_)
          refine ac_PI (st := []) [.ref v8, .int v10, .ref v11, .int x2, .int x3] (ag_S 44 wd_623 cal_Rw_commonBeginning wd_565) cal_Rw_commonBeginning ⟨by decide, by decide⟩ (Nat.le_of_ble_eq_true rfl) (m_Rw_commonBeginning g F σ v8 v10 v11 x2 x3) (fun v12 => ?_)
          refine aw_iload_n 3 (kk := ?_)
          refine aw_icmp_ne 6 69 (kt := fun _ => ?_) (kf := fun _ => ?_)
          · exact am_W.drop [true, false, true, true, false, true, true] (b_Lt_findKind_j69 F x0 x2 x3 x5 (x4 - 1) (fun y4 y5 => f_Lt_findKind_l11 σ F x0 x2 x3 n y4 y5) (fun y4 y5 => am_W.drop [true, false, true, true, true, true, false] (ih y4 y5)))
          · refine aw_iload 6 (kk := ?_)
            exact aw_iretP
def f_Lt_findKind (F : Nat) (σ : am_S) (x0 : Nat) (x1 : Int32) (x2 : Int32) (x3 : Int32) : Option (Int32) :=
  am_ck σ 3 x0 (
  (am_gA σ 3 4 x0).bind fun v1 =>
  (am_lI σ .int v1 x1).bind fun v2 =>
  f_Lt_findKind_l11 σ F x0 x2 x3 F v2 0)
theorem rc_Lt_findKind {F : Nat} {σ : am_S} {x0 : Nat} {x1 : Int32} {x2 : Int32} {x3 : Int32} (h : (f_Lt_findKind F σ x0 x1 x2 x3).isSome = true) : ∃ fs, σ.2.2 x0 = some (.inr (3, fs)) := am_ck_some h
theorem m_Lt_findKind (g : am_G) (F : Nat) (σ : am_S) (x0 : Nat) (x1 : Int32) (x2 : Int32) (x3 : Int32) : am_Met g mx_Lt_findKind [.ref x0, .int x1, .int x2, .int x3] σ ((f_Lt_findKind F σ x0 x1 x2 x3).bind (am_kPI σ)) := by
  refine am_Met.of (lv := [some (.ref x0), some (.int x1), some (.int x2), some (.int x3), none, none, none]) (am_cc rfl (am_cc rfl (am_cc rfl (am_cc rfl am_c0)))) (Nat.le_of_ble_eq_true rfl) rfl (by decide) ?_
  unfold f_Lt_findKind
  refine am_W.ck ?_
  refine aw_aload_n 0 (kk := ?_)
  refine aw_gA 3 4 22 (hw := wd_77) (kk := fun v1 => ?_)
  refine aw_iload_n 1 (kk := ?_)
  refine aw_lI (kk := fun v2 => ?_)
  refine aw_istore 4 (kk := ?_)
  refine aw_iconst 0 (v := 0) (kk := ?_)
  refine aw_istore 5 (kk := ?_)
  exact am_W.drop [true, false, true, true, true, true, false] (b_Lt_findKind_l11 F x0 x2 x3 F v2 0)
def f_Lt_addLine_j54 (F : Nat) (x0 : Nat) (x1 : Int32) (x2 : Int32) (x4 : Int32)  (σ : am_S) : Option (am_S) :=
  (am_gA σ 3 1 x0).bind fun v3 =>
  (am_gI σ 3 6 x0).bind fun v4 =>
  (am_sI σ v3 v4 x1).bind fun σ5 =>
  (am_gA σ5 3 2 x0).bind fun v6 =>
  (am_gI σ5 3 6 x0).bind fun v7 =>
  (am_sI σ5 v6 v7 x2).bind fun σ8 =>
  (am_gA σ8 3 3 x0).bind fun v9 =>
  (am_gI σ8 3 6 x0).bind fun v10 =>
  (am_sI σ8 v9 v10 x4).bind fun σ11 =>
  (am_gI σ11 3 6 x0).bind fun v12 =>
  (am_pI σ11 3 6 x0 (v12 + 1)).bind fun σ13 =>
  some σ13
theorem b_Lt_addLine_j54 {g : am_G} {σ0 : am_S} (F : Nat) (x0 : Nat) (x1 : Int32) (x2 : Int32) (x4 : Int32)   (σ : am_S) : am_W g mx_Lt_addLine σ0 54 [some (.ref x0), some (.int x1), some (.int x2), none, some (.int x4)] [] σ (f_Lt_addLine_j54 F x0 x1 x2 x4 σ) am_kV := by
  unfold f_Lt_addLine_j54
  refine aw_aload_n 0 (kk := ?_)
  refine aw_gA 3 1 10 (hw := wd_71) (kk := fun v3 => ?_)
  refine aw_aload_n 0 (kk := ?_)
  refine aw_gI 3 6 40 (hw := wd_79) (kk := fun v4 => ?_)
  refine aw_iload_n 1 (kk := ?_)
  refine aw_sI (kk := fun σ5 => ?_)
  refine aw_aload_n 0 (kk := ?_)
  refine aw_gA 3 2 16 (hw := wd_73) (kk := fun v6 => ?_)
  refine aw_aload_n 0 (kk := ?_)
  refine aw_gI 3 6 40 (hw := wd_79) (kk := fun v7 => ?_)
  refine aw_iload_n 2 (kk := ?_)
  refine aw_sI (kk := fun σ8 => ?_)
  refine aw_aload_n 0 (kk := ?_)
  refine aw_gA 3 3 19 (hw := wd_75) (kk := fun v9 => ?_)
  refine aw_aload_n 0 (kk := ?_)
  refine aw_gI 3 6 40 (hw := wd_79) (kk := fun v10 => ?_)
  refine aw_iload 4 (kk := ?_)
  refine aw_sI (kk := fun σ11 => ?_)
  refine aw_aload_n 0 (kk := ?_)
  refine aw_dup (kk := ?_)
  refine aw_gI 3 6 40 (hw := wd_79) (kk := fun v12 => ?_)
  refine aw_iconst 1 (v := 1) (kk := ?_)
  refine aw_iadd (kk := ?_)
  refine aw_pI 3 6 40 (hw := wd_79) (kk := fun σ13 => ?_)
  exact aw_vret
def f_Lt_addLine (F : Nat) (σ : am_S) (x0 : Nat) (x1 : Int32) (x2 : Int32) : Option (am_S) :=
  am_ck σ 3 x0 (
  (f_Lt_bucketOf F σ x0 x1 x2).bind fun v1 =>
  (f_Lt_findKind F σ x0 v1 x1 x2).bind fun v2 =>
  if 0 ≤ v2 then
    f_Lt_addLine_j54 F x0 x1 x2 v2 σ
  else
    (am_gI σ 3 6 x0).bind fun v14 =>
    (am_gA σ 3 5 x0).bind fun v15 =>
    (am_gI σ 3 6 x0).bind fun v16 =>
    (am_gA σ 3 4 x0).bind fun v17 =>
    (am_lI σ .int v17 v1).bind fun v18 =>
    (am_sI σ v15 v16 v18).bind fun σ19 =>
    (am_gA σ19 3 4 x0).bind fun v20 =>
    (am_gI σ19 3 6 x0).bind fun v21 =>
    (am_sI σ19 v20 v1 (v21 + 1)).bind fun σ22 =>
    f_Lt_addLine_j54 F x0 x1 x2 v14 σ22)
theorem rc_Lt_addLine {F : Nat} {σ : am_S} {x0 : Nat} {x1 : Int32} {x2 : Int32} (h : (f_Lt_addLine F σ x0 x1 x2).isSome = true) : ∃ fs, σ.2.2 x0 = some (.inr (3, fs)) := am_ck_some h
theorem m_Lt_addLine (g : am_G) (F : Nat) (σ : am_S) (x0 : Nat) (x1 : Int32) (x2 : Int32) : am_Met g mx_Lt_addLine [.ref x0, .int x1, .int x2] σ ((f_Lt_addLine F σ x0 x1 x2).bind am_kV) := by
  refine am_Met.of (lv := [some (.ref x0), some (.int x1), some (.int x2), none, none]) (am_cc rfl (am_cc rfl (am_cc rfl am_c0))) (Nat.le_of_ble_eq_true rfl) rfl (by decide) ?_
  unfold f_Lt_addLine
  refine am_W.ck ?_
  refine aw_aload_n 0 (kk := ?_)
  refine aw_iload_n 1 (kk := ?_)
  refine aw_iload_n 2 (kk := ?_)
  refine ac_PI (st := []) [.ref x0, .int x1, .int x2] (ag_V 32 3 rc_Lt_bucketOf wd_615 cal_Lt_bucketOf wd_617 ws_13) cal_Lt_bucketOf ⟨by decide, by decide⟩ (Nat.le_of_ble_eq_true rfl) (m_Lt_bucketOf g F σ x0 x1 x2) (fun v1 => ?_)
  refine aw_istore_n 3 (kk := ?_)
  refine aw_aload_n 0 (kk := ?_)
  refine aw_iload_n 3 (kk := ?_)
  refine aw_iload_n 1 (kk := ?_)
  refine aw_iload_n 2 (kk := ?_)
  refine ac_PI (st := []) [.ref x0, .int v1, .int x1, .int x2] (ag_V 36 3 rc_Lt_findKind wd_619 cal_Lt_findKind wd_621 ws_14) cal_Lt_findKind ⟨by decide, by decide⟩ (Nat.le_of_ble_eq_true rfl) (m_Lt_findKind g F σ x0 v1 x1 x2) (fun v2 => ?_)
  refine aw_istore 4 (kk := ?_)
  refine aw_iload 4 (kk := ?_)
  refine aw_if_ge 36 54 (kt := fun _ => ?_) (kf := fun _ => ?_)
  · exact am_W.drop [true, true, true, false, true] (b_Lt_addLine_j54 F x0 x1 x2 v2 σ)
  · refine aw_aload_n 0 (kk := ?_)
    refine aw_gI 3 6 40 (hw := wd_79) (kk := fun v14 => ?_)
    refine aw_istore 4 (kk := ?_)
    refine aw_aload_n 0 (kk := ?_)
    refine aw_gA 3 5 25 (hw := wd_78) (kk := fun v15 => ?_)
    refine aw_aload_n 0 (kk := ?_)
    refine aw_gI 3 6 40 (hw := wd_79) (kk := fun v16 => ?_)
    refine aw_aload_n 0 (kk := ?_)
    refine aw_gA 3 4 22 (hw := wd_77) (kk := fun v17 => ?_)
    refine aw_iload_n 3 (kk := ?_)
    refine aw_lI (kk := fun v18 => ?_)
    refine aw_sI (kk := fun σ19 => ?_)
    refine aw_aload_n 0 (kk := ?_)
    refine aw_gA 3 4 22 (hw := wd_77) (kk := fun v20 => ?_)
    refine aw_iload_n 3 (kk := ?_)
    refine aw_aload_n 0 (kk := ?_)
    refine aw_gI 3 6 40 (hw := wd_79) (kk := fun v21 => ?_)
    refine aw_iconst 1 (v := 1) (kk := ?_)
    refine aw_iadd (kk := ?_)
    refine aw_sI (kk := fun σ22 => ?_)
    exact am_W.drop [true, true, true, false, true] (b_Lt_addLine_j54 F x0 x1 x2 v14 σ22)
def f_Bl_cutLines_j31 (F : Nat) (x0 : Nat) (x3 : Int32) (x4 : Int32) (k5 : Int32 → Int32 → am_S → Option (am_S)) (σ : am_S) : Option (am_S) :=
  (am_gA σ 2 5 x0).bind fun v3 =>
  (f_Lt_addLine F σ v3 x3 ((x4 + 1) - x3)).bind fun σ4 =>
  k5 (x4 + 1) (x4 + 1) σ4
theorem b_Bl_cutLines_j31 {g : am_G} {σ0 : am_S} (F : Nat) (x0 : Nat) (x2 : Int32) (x3 : Int32) (x4 : Int32) (k5 : Int32 → Int32 → am_S → Option (am_S)) (h5 : ∀ (y3 : Int32) (y4 : Int32)  (τ : am_S), am_W g mx_Bl_cutLines σ0 5 [some (.ref x0), none, some (.int x2), some (.int y3), some (.int y4)] [] τ (k5 y3 y4 τ) am_kV) (σ : am_S) : am_W g mx_Bl_cutLines σ0 31 [some (.ref x0), none, some (.int x2), some (.int x3), some (.int x4)] [] σ (f_Bl_cutLines_j31 F x0 x3 x4 k5 σ) am_kV := by
  unfold f_Bl_cutLines_j31
  refine aw_aload_n 0 (kk := ?_)
  refine aw_gA 2 5 35 (hw := wd_102) (kk := fun v3 => ?_)
  refine aw_iload_n 3 (kk := ?_)
  refine aw_iload 4 (kk := ?_)
  refine aw_iconst 1 (v := 1) (kk := ?_)
  refine aw_iadd (kk := ?_)
  refine aw_iload_n 3 (kk := ?_)
  refine aw_isub (kk := ?_)
  refine ac_V (st := []) [.ref v3, .int x3, .int ((x4 + 1) - x3)] (ag_V 96 3 rc_Lt_addLine wd_611 cal_Lt_addLine wd_612 wd_613) cal_Lt_addLine ⟨by decide, by decide⟩ (Nat.le_of_ble_eq_true rfl) (m_Lt_addLine g F σ v3 x3 ((x4 + 1) - x3)) (fun σ4 => ?_)
  refine aw_iload 4 (kk := ?_)
  refine aw_iconst 1 (v := 1) (kk := ?_)
  refine aw_iadd (kk := ?_)
  refine aw_istore_n 3 (kk := ?_)
  refine aw_iinc 4 1 (v := 1) (kk := ?_)
  refine aw_goto (-48) 5 (kk := ?_)
  exact am_W.drop [true, false, true, true, true] (h5 (x4 + 1) (x4 + 1) σ4)
def f_Bl_cutLines_l5 (F : Nat) (x0 : Nat) (x2 : Int32)  : Nat → Int32 → Int32 → am_S → Option (am_S)
  | 0, _, _, _ => none
  | n + 1, x3, x4, σ =>
    if x2 ≤ x4 then
      some σ
    else
      (am_gA σ 2 0 x0).bind fun v1 =>
      (am_lI σ .byte v1 x4).bind fun v2 =>
      if v2 = 10 then
        f_Bl_cutLines_j31 F x0 x3 x4 (fun y3 y4 τ => f_Bl_cutLines_l5 F x0 x2 n y3 y4 τ) σ
      else
        if x4 = (x2 - 1) then
          f_Bl_cutLines_j31 F x0 x3 x4 (fun y3 y4 τ => f_Bl_cutLines_l5 F x0 x2 n y3 y4 τ) σ
        else
          f_Bl_cutLines_l5 F x0 x2 n x3 (x4 + 1) σ
theorem b_Bl_cutLines_l5 {g : am_G} {σ0 : am_S} (F : Nat) (x0 : Nat) (x2 : Int32)   : ∀ (n : Nat) (x3 : Int32) (x4 : Int32) (σ : am_S), am_W g mx_Bl_cutLines σ0 5 [some (.ref x0), none, some (.int x2), some (.int x3), some (.int x4)] [] σ (f_Bl_cutLines_l5 F x0 x2 n x3 x4 σ) am_kV := by
  intro n
  induction n with
  | zero =>
    intro x3 x4 σ
    rw [f_Bl_cutLines_l5]
    exact am_W.none
  | succ n ih =>
    intro x3 x4 σ
    rw [f_Bl_cutLines_l5]
    refine aw_iload 4 (kk := ?_)
    refine aw_iload_n 2 (kk := ?_)
    refine aw_icmp_ge 48 56 (kt := fun _ => ?_) (kf := fun _ => ?_)
    · exact aw_vret
    · refine aw_aload_n 0 (kk := ?_)
      refine aw_gA 2 0 10 (hw := wd_97) (kk := fun v1 => ?_)
      refine aw_iload 4 (kk := ?_)
      refine aw_lB (kk := fun v2 => ?_)
      refine aw_bipush 10 (v := 10) (kk := ?_)
      refine aw_icmp_eq 11 31 (kt := fun _ => ?_) (kf := fun _ => ?_)
      · exact am_W.drop [true, false, true, true, true] (b_Bl_cutLines_j31 F x0 x2 x3 x4 (fun y3 y4 τ => f_Bl_cutLines_l5 F x0 x2 n y3 y4 τ) (fun y3 y4 τ => am_W.drop [true, false, true, true, true] (ih y3 y4 τ)) σ)
      · refine aw_iload 4 (kk := ?_)
        refine aw_iload_n 2 (kk := ?_)
        refine aw_iconst 1 (v := 1) (kk := ?_)
        refine aw_isub (kk := ?_)
        refine aw_icmp_ne 22 50 (kt := fun _ => ?_) (kf := fun _ => ?_)
        · refine aw_iinc 4 1 (v := 1) (kk := ?_)
          refine aw_goto (-48) 5 (kk := ?_)
          exact am_W.drop [true, false, true, true, true] (ih x3 (x4 + 1) σ)
        · exact am_W.drop [true, false, true, true, true] (b_Bl_cutLines_j31 F x0 x2 x3 x4 (fun y3 y4 τ => f_Bl_cutLines_l5 F x0 x2 n y3 y4 τ) (fun y3 y4 τ => am_W.drop [true, false, true, true, true] (ih y3 y4 τ)) σ)
def f_Bl_cutLines (F : Nat) (σ : am_S) (x0 : Nat) (x1 : Int32) (x2 : Int32) : Option (am_S) :=
  am_ck σ 2 x0 (
  f_Bl_cutLines_l5 F x0 x2 F x1 x1 σ)
theorem rc_Bl_cutLines {F : Nat} {σ : am_S} {x0 : Nat} {x1 : Int32} {x2 : Int32} (h : (f_Bl_cutLines F σ x0 x1 x2).isSome = true) : ∃ fs, σ.2.2 x0 = some (.inr (2, fs)) := am_ck_some h
theorem m_Bl_cutLines (g : am_G) (F : Nat) (σ : am_S) (x0 : Nat) (x1 : Int32) (x2 : Int32) : am_Met g mx_Bl_cutLines [.ref x0, .int x1, .int x2] σ ((f_Bl_cutLines F σ x0 x1 x2).bind am_kV) := by
  refine am_Met.of (lv := [some (.ref x0), some (.int x1), some (.int x2), none, none]) (am_cc rfl (am_cc rfl (am_cc rfl am_c0))) (Nat.le_of_ble_eq_true rfl) rfl (by decide) ?_
  unfold f_Bl_cutLines
  refine am_W.ck ?_
  refine aw_iload_n 1 (kk := ?_)
  refine aw_istore_n 3 (kk := ?_)
  refine aw_iload_n 1 (kk := ?_)
  refine aw_istore 4 (kk := ?_)
  exact am_W.drop [true, false, true, true, true] (b_Bl_cutLines_l5 F x0 x2 F x1 x1 σ)
def f_Bl_addText_j95 (F : Nat) (x0 : Nat)  (σ : am_S) : Option (am_S) :=
  (am_gA σ 2 4 x0).bind fun v21 =>
  (am_gI σ 2 7 x0).bind fun v22 =>
  (am_gA σ 2 5 x0).bind fun v23 =>
  (am_gI σ 3 6 v23).bind fun v24 =>
  (am_gA σ 2 3 x0).bind fun v25 =>
  (am_gI σ 2 7 x0).bind fun v26 =>
  (am_lI σ .int v25 v26).bind fun v27 =>
  (am_sI σ v21 v22 (v24 - v27)).bind fun σ28 =>
  (am_gI σ28 2 7 x0).bind fun v29 =>
  (am_pI σ28 2 7 x0 (v29 + 1)).bind fun σ30 =>
  some σ30
theorem b_Bl_addText_j95 {g : am_G} {σ0 : am_S} (F : Nat) (x0 : Nat)   (σ : am_S) : am_W g mx_Bl_addText σ0 95 [some (.ref x0), none, none, none, none, none] [] σ (f_Bl_addText_j95 F x0 σ) am_kV := by
  unfold f_Bl_addText_j95
  refine aw_aload_n 0 (kk := ?_)
  refine aw_gA 2 4 27 (hw := wd_101) (kk := fun v21 => ?_)
  refine aw_aload_n 0 (kk := ?_)
  refine aw_gI 2 7 42 (hw := wd_104) (kk := fun v22 => ?_)
  refine aw_aload_n 0 (kk := ?_)
  refine aw_gA 2 5 35 (hw := wd_102) (kk := fun v23 => ?_)
  refine aw_gIN 3 6 91 "MapMerger" (hw := wd_80) (kk := fun v24 => ?_)
  refine aw_aload_n 0 (kk := ?_)
  refine aw_gA 2 3 24 (hw := wd_100) (kk := fun v25 => ?_)
  refine aw_aload_n 0 (kk := ?_)
  refine aw_gI 2 7 42 (hw := wd_104) (kk := fun v26 => ?_)
  refine aw_lI (kk := fun v27 => ?_)
  refine aw_isub (kk := ?_)
  refine aw_sI (kk := fun σ28 => ?_)
  refine aw_aload_n 0 (kk := ?_)
  refine aw_dup (kk := ?_)
  refine aw_gI 2 7 42 (hw := wd_104) (kk := fun v29 => ?_)
  refine aw_iconst 1 (v := 1) (kk := ?_)
  refine aw_iadd (kk := ?_)
  refine aw_pI 2 7 42 (hw := wd_104) (kk := fun σ30 => ?_)
  exact aw_vret
def f_Bl_addText (F : Nat) (σ : am_S) (x0 : Nat) (x1 : Nat) (x2 : Int32) (x3 : Int32) : Option (am_S) :=
  am_ck σ 2 x0 (
  (am_gA σ 2 1 x0).bind fun v1 =>
  (am_gI σ 2 7 x0).bind fun v2 =>
  (am_lI σ .int v1 v2).bind fun v3 =>
  (am_gA σ 2 0 x0).bind fun v4 =>
  (am_cp σ .byte x1 x2 v4 v3 x3).bind fun σ5 =>
  (am_gA σ5 2 1 x0).bind fun v6 =>
  (am_gI σ5 2 7 x0).bind fun v7 =>
  (am_sI σ5 v6 (v7 + 1) (v3 + x3)).bind fun σ8 =>
  (am_gA σ8 2 2 x0).bind fun v9 =>
  (am_gI σ8 2 7 x0).bind fun v10 =>
  (f_Bl_looksRough F σ8 x0 v3 (v3 + x3)).bind fun v11 =>
  (am_sZ σ8 v9 v10 v11).bind fun σ12 =>
  (am_gA σ12 2 3 x0).bind fun v13 =>
  (am_gI σ12 2 7 x0).bind fun v14 =>
  (am_gA σ12 2 5 x0).bind fun v15 =>
  (am_gI σ12 3 6 v15).bind fun v16 =>
  (am_sI σ12 v13 v14 v16).bind fun σ17 =>
  (am_gA σ17 2 2 x0).bind fun v18 =>
  (am_gI σ17 2 7 x0).bind fun v19 =>
  (am_lI σ17 .boolean v18 v19).bind fun v20 =>
  if v20 = 0 then
    (f_Bl_cutLines F σ17 x0 v3 (v3 + x3)).bind fun σ31 =>
    f_Bl_addText_j95 F x0 σ31
  else
    f_Bl_addText_j95 F x0 σ17)
theorem rc_Bl_addText {F : Nat} {σ : am_S} {x0 : Nat} {x1 : Nat} {x2 : Int32} {x3 : Int32} (h : (f_Bl_addText F σ x0 x1 x2 x3).isSome = true) : ∃ fs, σ.2.2 x0 = some (.inr (2, fs)) := am_ck_some h
theorem m_Bl_addText (g : am_G) (F : Nat) (σ : am_S) (x0 : Nat) (x1 : Nat) (x2 : Int32) (x3 : Int32) : am_Met g mx_Bl_addText [.ref x0, .ref x1, .int x2, .int x3] σ ((f_Bl_addText F σ x0 x1 x2 x3).bind am_kV) := by
  refine am_Met.of (lv := [some (.ref x0), some (.ref x1), some (.int x2), some (.int x3), none, none]) (am_cc rfl (am_cc rfl (am_cc rfl (am_cc rfl am_c0)))) (Nat.le_of_ble_eq_true rfl) rfl (by decide) ?_
  unfold f_Bl_addText
  refine am_W.ck ?_
  refine aw_aload_n 0 (kk := ?_)
  refine aw_gA 2 1 16 (hw := wd_98) (kk := fun v1 => ?_)
  refine aw_aload_n 0 (kk := ?_)
  refine aw_gI 2 7 42 (hw := wd_104) (kk := fun v2 => ?_)
  refine aw_lI (kk := fun v3 => ?_)
  refine aw_istore 4 (kk := ?_)
  refine aw_iload 4 (kk := ?_)
  refine aw_iload_n 3 (kk := ?_)
  refine aw_iadd (kk := ?_)
  refine aw_istore 5 (kk := ?_)
  refine aw_aload_n 1 (kk := ?_)
  refine aw_iload_n 2 (kk := ?_)
  refine aw_aload_n 0 (kk := ?_)
  refine aw_gA 2 0 10 (hw := wd_97) (kk := fun v4 => ?_)
  refine aw_iload 4 (kk := ?_)
  refine aw_iload_n 3 (kk := ?_)
  refine aw_cp 81 .byte (hw := wd_602) (hw2 := wd_505) (hw3 := wd_504) (hw4 := wd_19) (hr := Nat.le_of_ble_eq_true rfl) (kk := fun σ5 => ?_)
  refine aw_aload_n 0 (kk := ?_)
  refine aw_gA 2 1 16 (hw := wd_98) (kk := fun v6 => ?_)
  refine aw_aload_n 0 (kk := ?_)
  refine aw_gI 2 7 42 (hw := wd_104) (kk := fun v7 => ?_)
  refine aw_iconst 1 (v := 1) (kk := ?_)
  refine aw_iadd (kk := ?_)
  refine aw_iload 5 (kk := ?_)
  refine aw_sI (kk := fun σ8 => ?_)
  refine aw_aload_n 0 (kk := ?_)
  refine aw_gA 2 2 20 (hw := wd_99) (kk := fun v9 => ?_)
  refine aw_aload_n 0 (kk := ?_)
  refine aw_gI 2 7 42 (hw := wd_104) (kk := fun v10 => ?_)
  refine aw_aload_n 0 (kk := ?_)
  refine aw_iload 4 (kk := ?_)
  refine aw_iload 5 (kk := ?_)
  refine ac_PI (st := [.int v10, .ref v9]) [.ref x0, .int v3, .int (v3 + x3)] (ag_V 87 2 rc_Bl_looksRough wd_603 cal_Bl_looksRough wd_605 ws_11) cal_Bl_looksRough ⟨by decide, by decide⟩ (Nat.le_of_ble_eq_true rfl) (m_Bl_looksRough g F σ8 x0 v3 (v3 + x3)) (fun v11 => ?_)
  refine aw_sZ (kk := fun σ12 => ?_)
  refine aw_aload_n 0 (kk := ?_)
  refine aw_gA 2 3 24 (hw := wd_100) (kk := fun v13 => ?_)
  refine aw_aload_n 0 (kk := ?_)
  refine aw_gI 2 7 42 (hw := wd_104) (kk := fun v14 => ?_)
  refine aw_aload_n 0 (kk := ?_)
  refine aw_gA 2 5 35 (hw := wd_102) (kk := fun v15 => ?_)
  refine aw_gIN 3 6 91 "MapMerger" (hw := wd_80) (kk := fun v16 => ?_)
  refine aw_sI (kk := fun σ17 => ?_)
  refine aw_aload_n 0 (kk := ?_)
  refine aw_gA 2 2 20 (hw := wd_99) (kk := fun v18 => ?_)
  refine aw_aload_n 0 (kk := ?_)
  refine aw_gI 2 7 42 (hw := wd_104) (kk := fun v19 => ?_)
  refine aw_lZ (kk := fun v20 => ?_)
  refine aw_if_ne 11 95 (kt := fun _ => ?_) (kf := fun _ => ?_)
  · exact am_W.drop [true, false, false, false, false, false] (b_Bl_addText_j95 F x0 σ17)
  · refine aw_aload_n 0 (kk := ?_)
    refine aw_iload 4 (kk := ?_)
    refine aw_iload 5 (kk := ?_)
    refine ac_V (st := []) [.ref x0, .int v3, .int (v3 + x3)] (ag_V 92 2 rc_Bl_cutLines wd_607 cal_Bl_cutLines wd_609 ws_12) cal_Bl_cutLines ⟨by decide, by decide⟩ (Nat.le_of_ble_eq_true rfl) (m_Bl_cutLines g F σ17 x0 v3 (v3 + x3)) (fun σ31 => ?_)
    exact am_W.drop [true, false, false, false, false, false] (b_Bl_addText_j95 F x0 σ31)
def f_Bl_findOrAdd (F : Nat) (σ : am_S) (x0 : Nat) (x1 : Nat) (x2 : Int32) (x3 : Int32) : Option (Int32 × am_S) :=
  am_ck σ 2 x0 (
  (f_Bl_find F σ x0 x1 x2 x3).bind fun v1 =>
  if v1 < 0 then
    (am_gI σ 2 7 x0).bind fun v2 =>
    if 500 ≤ v2 then
      some ((-1), σ)
    else
      if 4096 < x3 then
        some ((-1), σ)
      else
        (f_Bl_totalLength F σ x0).bind fun v3 =>
        if (v3 + x3) ≤ 32768 then
          (f_Bl_addText F σ x0 x1 x2 x3).bind fun σ4 =>
          (am_gI σ4 2 7 x0).bind fun v5 =>
          some ((v5 - 1), σ4)
        else
          some ((-1), σ)
  else
    some (v1, σ))
theorem rc_Bl_findOrAdd {F : Nat} {σ : am_S} {x0 : Nat} {x1 : Nat} {x2 : Int32} {x3 : Int32} (h : (f_Bl_findOrAdd F σ x0 x1 x2 x3).isSome = true) : ∃ fs, σ.2.2 x0 = some (.inr (2, fs)) := am_ck_some h
theorem m_Bl_findOrAdd (g : am_G) (F : Nat) (σ : am_S) (x0 : Nat) (x1 : Nat) (x2 : Int32) (x3 : Int32) : am_Met g mx_Bl_findOrAdd [.ref x0, .ref x1, .int x2, .int x3] σ ((f_Bl_findOrAdd F σ x0 x1 x2 x3).bind am_kI) := by
  refine am_Met.of (lv := [some (.ref x0), some (.ref x1), some (.int x2), some (.int x3), none]) (am_cc rfl (am_cc rfl (am_cc rfl (am_cc rfl am_c0)))) (Nat.le_of_ble_eq_true rfl) rfl (by decide) ?_
  unfold f_Bl_findOrAdd
  refine am_W.ck ?_
  refine aw_aload_n 0 (kk := ?_)
  refine aw_aload_n 1 (kk := ?_)
  refine aw_iload_n 2 (kk := ?_)
  refine aw_iload_n 3 (kk := ?_)
  refine ac_PI (st := []) [.ref x0, .ref x1, .int x2, .int x3] (ag_V 60 2 rc_Bl_find wd_588 cal_Bl_find wd_589 wd_590) cal_Bl_find ⟨by decide, by decide⟩ (Nat.le_of_ble_eq_true rfl) (m_Bl_find g F σ x0 x1 x2 x3) (fun v1 => ?_)
  refine aw_istore 4 (kk := ?_)
  refine aw_iload 4 (kk := ?_)
  refine aw_if_lt 6 17 (kt := fun _ => ?_) (kf := fun _ => ?_)
  · refine aw_aload_n 0 (kk := ?_)
    refine aw_gI 2 7 42 (hw := wd_104) (kk := fun v2 => ?_)
    refine aw_sipush 500 (v := 500) (kk := ?_)
    refine aw_icmp_ge 21 45 (kt := fun _ => ?_) (kf := fun _ => ?_)
    · refine aw_iconst (-1) (v := (-1)) (kk := ?_)
      exact aw_iret
    · refine aw_iload_n 3 (kk := ?_)
      refine aw_sipush 4096 (v := 4096) (kk := ?_)
      refine aw_icmp_gt 14 45 (kt := fun _ => ?_) (kf := fun _ => ?_)
      · refine aw_iconst (-1) (v := (-1)) (kk := ?_)
        exact aw_iret
      · refine aw_aload_n 0 (kk := ?_)
        refine ac_PI (st := []) [.ref x0] (ag_V 64 2 rc_Bl_totalLength wd_597 cal_Bl_totalLength wd_360 wd_361) cal_Bl_totalLength ⟨by decide, by decide⟩ (Nat.le_of_ble_eq_true rfl) (m_Bl_totalLength g F σ x0) (fun v3 => ?_)
        refine aw_iload_n 3 (kk := ?_)
        refine aw_iadd (kk := ?_)
        refine aw_ldc 9 (v := 32768) (hw := wd_62) (kk := ?_)
        refine aw_icmp_le 5 47 (kt := fun _ => ?_) (kf := fun _ => ?_)
        · refine aw_aload_n 0 (kk := ?_)
          refine aw_aload_n 1 (kk := ?_)
          refine aw_iload_n 2 (kk := ?_)
          refine aw_iload_n 3 (kk := ?_)
          refine ac_V (st := []) [.ref x0, .ref x1, .int x2, .int x3] (ag_V 68 2 rc_Bl_addText wd_598 cal_Bl_addText wd_600 ws_10) cal_Bl_addText ⟨by decide, by decide⟩ (Nat.le_of_ble_eq_true rfl) (m_Bl_addText g F σ x0 x1 x2 x3) (fun σ4 => ?_)
          refine aw_aload_n 0 (kk := ?_)
          refine aw_gI 2 7 42 (hw := wd_104) (kk := fun v5 => ?_)
          refine aw_iconst 1 (v := 1) (kk := ?_)
          refine aw_isub (kk := ?_)
          exact aw_iret
        · refine aw_iconst (-1) (v := (-1)) (kk := ?_)
          exact aw_iret
  · refine aw_iload 4 (kk := ?_)
    exact aw_iret
def f_Bl_lineKind (F : Nat) (σ : am_S) (x0 : Nat) (x1 : Int32) (x2 : Int32) : Option (Int32) :=
  am_ck σ 2 x0 (
  (am_gA σ 2 5 x0).bind fun v1 =>
  (am_gA σ 3 3 v1).bind fun v2 =>
  (am_gA σ 2 3 x0).bind fun v3 =>
  (am_lI σ .int v3 x1).bind fun v4 =>
  (am_lI σ .int v2 (v4 + x2)).bind fun v5 =>
  some v5)
theorem rc_Bl_lineKind {F : Nat} {σ : am_S} {x0 : Nat} {x1 : Int32} {x2 : Int32} (h : (f_Bl_lineKind F σ x0 x1 x2).isSome = true) : ∃ fs, σ.2.2 x0 = some (.inr (2, fs)) := am_ck_some h
theorem m_Bl_lineKind (g : am_G) (F : Nat) (σ : am_S) (x0 : Nat) (x1 : Int32) (x2 : Int32) : am_Met g mx_Bl_lineKind [.ref x0, .int x1, .int x2] σ ((f_Bl_lineKind F σ x0 x1 x2).bind (am_kPI σ)) := by
  refine am_Met.of (lv := [some (.ref x0), some (.int x1), some (.int x2)]) (am_cc rfl (am_cc rfl (am_cc rfl am_c0))) (Nat.le_of_ble_eq_true rfl) rfl (by decide) ?_
  unfold f_Bl_lineKind
  refine am_W.ck ?_
  refine aw_aload_n 0 (kk := ?_)
  refine aw_gA 2 5 35 (hw := wd_102) (kk := fun v1 => ?_)
  refine aw_gAN 3 3 46 "MapMerger" (hw := wd_76) (kk := fun v2 => ?_)
  refine aw_aload_n 0 (kk := ?_)
  refine aw_gA 2 3 24 (hw := wd_100) (kk := fun v3 => ?_)
  refine aw_iload_n 1 (kk := ?_)
  refine aw_lI (kk := fun v4 => ?_)
  refine aw_iload_n 2 (kk := ?_)
  refine aw_iadd (kk := ?_)
  refine aw_lI (kk := fun v5 => ?_)
  exact aw_iretP
def f_Bl_commonLength_l2 (F : Nat) (x0 : Nat) (x1 : Int32) (k33 : am_S → Option (Int32 × am_S)) : Nat → Int32 → am_S → Option (Int32 × am_S)
  | 0, _, _ => none
  | n + 1, x3, σ =>
    (am_gA σ 2 4 x0).bind fun v1 =>
    (am_lI σ .int v1 x1).bind fun v2 =>
    if v2 ≤ x3 then
      k33 σ
    else
      (am_gA σ 2 6 x0).bind fun v3 =>
      (f_Bl_lineKind F σ x0 x1 x3).bind fun v4 =>
      (am_lI σ .int v3 v4).bind fun v5 =>
      (am_sI σ v3 v4 (v5 + 1)).bind fun σ6 =>
      f_Bl_commonLength_l2 F x0 x1 k33 n (x3 + 1) σ6
theorem b_Bl_commonLength_l2 {g : am_G} {σ0 : am_S} (F : Nat) (x0 : Nat) (x1 : Int32) (x2 : Int32) (k33 : am_S → Option (Int32 × am_S)) (h33 : ∀ (τ : am_S), am_W g mx_Bl_commonLength σ0 33 [some (.ref x0), some (.int x1), some (.int x2), none, none, none] [] τ (k33 τ) am_kI) : ∀ (n : Nat) (x3 : Int32) (σ : am_S), am_W g mx_Bl_commonLength σ0 2 [some (.ref x0), some (.int x1), some (.int x2), some (.int x3), none, none] [] σ (f_Bl_commonLength_l2 F x0 x1 k33 n x3 σ) am_kI := by
  intro n
  induction n with
  | zero =>
    intro x3 σ
    rw [f_Bl_commonLength_l2]
    exact am_W.none
  | succ n ih =>
    intro x3 σ
    rw [f_Bl_commonLength_l2]
    refine aw_iload_n 3 (kk := ?_)
    refine aw_aload_n 0 (kk := ?_)
    refine aw_gA 2 4 27 (hw := wd_101) (kk := fun v1 => ?_)
    refine aw_iload_n 1 (kk := ?_)
    refine aw_lI (kk := fun v2 => ?_)
    refine aw_icmp_ge 24 33 (kt := fun _ => ?_) (kf := fun _ => ?_)
    · exact am_W.drop [true, true, true, false, false, false] (h33 σ)
    · refine aw_aload_n 0 (kk := ?_)
      refine aw_gA 2 6 39 (hw := wd_103) (kk := fun v3 => ?_)
      refine aw_aload_n 0 (kk := ?_)
      refine aw_iload_n 1 (kk := ?_)
      refine aw_iload_n 3 (kk := ?_)
      refine ac_PI (st := [.ref v3]) [.ref x0, .int x1, .int x3] (ag_V 99 2 rc_Bl_lineKind wd_746 cal_Bl_lineKind wd_747 wd_748) cal_Bl_lineKind ⟨by decide, by decide⟩ (Nat.le_of_ble_eq_true rfl) (m_Bl_lineKind g F σ x0 x1 x3) (fun v4 => ?_)
      refine aw_dup2 (kk := ?_)
      refine aw_lI (kk := fun v5 => ?_)
      refine aw_iconst 1 (v := 1) (kk := ?_)
      refine aw_iadd (kk := ?_)
      refine aw_sI (kk := fun σ6 => ?_)
      refine aw_iinc 3 1 (v := 1) (kk := ?_)
      refine aw_goto (-28) 2 (kk := ?_)
      exact am_W.drop [true, true, true, true, false, false] (ih (x3 + 1) σ6)
def f_Bl_commonLength_l38 (F : Nat) (x0 : Nat) (x2 : Int32) (k98 : Int32 → am_S → Option (Int32 × am_S)) : Nat → Int32 → Int32 → am_S → Option (Int32 × am_S)
  | 0, _, _, _ => none
  | n + 1, x3, x4, σ =>
    (am_gA σ 2 4 x0).bind fun v7 =>
    (am_lI σ .int v7 x2).bind fun v8 =>
    if v8 ≤ x4 then
      k98 x3 σ
    else
      (f_Bl_lineKind F σ x0 x2 x4).bind fun v9 =>
      (am_gA σ 2 6 x0).bind fun v10 =>
      (am_lI σ .int v10 v9).bind fun v11 =>
      if v11 ≤ 0 then
        f_Bl_commonLength_l38 F x0 x2 k98 n x3 (x4 + 1) σ
      else
        (am_gA σ 2 6 x0).bind fun v12 =>
        (am_lI σ .int v12 v9).bind fun v13 =>
        (am_sI σ v12 v9 (v13 - 1)).bind fun σ14 =>
        (am_gA σ14 2 5 x0).bind fun v15 =>
        (am_gA σ14 3 2 v15).bind fun v16 =>
        (am_lI σ14 .int v16 v9).bind fun v17 =>
        f_Bl_commonLength_l38 F x0 x2 k98 n (x3 + v17) (x4 + 1) σ14
theorem b_Bl_commonLength_l38 {g : am_G} {σ0 : am_S} (F : Nat) (x0 : Nat) (x1 : Int32) (x2 : Int32) (k98 : Int32 → am_S → Option (Int32 × am_S)) (h98 : ∀ (y3 : Int32)  (τ : am_S), am_W g mx_Bl_commonLength σ0 98 [some (.ref x0), some (.int x1), none, some (.int y3), none, none] [] τ (k98 y3 τ) am_kI) : ∀ (n : Nat) (x3 : Int32) (x4 : Int32) (σ : am_S), am_W g mx_Bl_commonLength σ0 38 [some (.ref x0), some (.int x1), some (.int x2), some (.int x3), some (.int x4), none] [] σ (f_Bl_commonLength_l38 F x0 x2 k98 n x3 x4 σ) am_kI := by
  intro n
  induction n with
  | zero =>
    intro x3 x4 σ
    rw [f_Bl_commonLength_l38]
    exact am_W.none
  | succ n ih =>
    intro x3 x4 σ
    rw [f_Bl_commonLength_l38]
    refine aw_iload 4 (kk := ?_)
    refine aw_aload_n 0 (kk := ?_)
    refine aw_gA 2 4 27 (hw := wd_101) (kk := fun v7 => ?_)
    refine aw_iload_n 2 (kk := ?_)
    refine aw_lI (kk := fun v8 => ?_)
    refine aw_icmp_ge 52 98 (kt := fun _ => ?_) (kf := fun _ => ?_)
    · exact am_W.drop [true, true, false, true, false, false] (h98 x3 σ)
    · refine aw_aload_n 0 (kk := ?_)
      refine aw_iload_n 2 (kk := ?_)
      refine aw_iload 4 (kk := ?_)
      refine ac_PI (st := []) [.ref x0, .int x2, .int x4] (ag_V 99 2 rc_Bl_lineKind wd_746 cal_Bl_lineKind wd_747 wd_748) cal_Bl_lineKind ⟨by decide, by decide⟩ (Nat.le_of_ble_eq_true rfl) (m_Bl_lineKind g F σ x0 x2 x4) (fun v9 => ?_)
      refine aw_istore 5 (kk := ?_)
      refine aw_aload_n 0 (kk := ?_)
      refine aw_gA 2 6 39 (hw := wd_103) (kk := fun v10 => ?_)
      refine aw_iload 5 (kk := ?_)
      refine aw_lI (kk := fun v11 => ?_)
      refine aw_if_le 27 92 (kt := fun _ => ?_) (kf := fun _ => ?_)
      · refine aw_iinc 4 1 (v := 1) (kk := ?_)
        refine aw_goto (-57) 38 (kk := ?_)
        exact am_W.drop [true, true, true, true, true, false] (ih x3 (x4 + 1) σ)
      · refine aw_aload_n 0 (kk := ?_)
        refine aw_gA 2 6 39 (hw := wd_103) (kk := fun v12 => ?_)
        refine aw_iload 5 (kk := ?_)
        refine aw_dup2 (kk := ?_)
        refine aw_lI (kk := fun v13 => ?_)
        refine aw_iconst 1 (v := 1) (kk := ?_)
        refine aw_isub (kk := ?_)
        refine aw_sI (kk := fun σ14 => ?_)
        refine aw_iload_n 3 (kk := ?_)
        refine aw_aload_n 0 (kk := ?_)
        refine aw_gA 2 5 35 (hw := wd_102) (kk := fun v15 => ?_)
        refine aw_gAN 3 2 102 "MapMerger" (hw := wd_74) (kk := fun v16 => ?_)
        refine aw_iload 5 (kk := ?_)
        refine aw_lI (kk := fun v17 => ?_)
        refine aw_iadd (kk := ?_)
        refine aw_istore_n 3 (kk := ?_)
        refine aw_iinc 4 1 (v := 1) (kk := ?_)
        refine aw_goto (-57) 38 (kk := ?_)
        exact am_W.drop [true, true, true, true, true, false] (ih (x3 + v17) (x4 + 1) σ14)
def f_Bl_commonLength_l101 (F : Nat) (x0 : Nat) (x1 : Int32) (x3 : Int32)  : Nat → Int32 → am_S → Option (Int32 × am_S)
  | 0, _, _ => none
  | n + 1, x4, σ =>
    (am_gA σ 2 4 x0).bind fun v18 =>
    (am_lI σ .int v18 x1).bind fun v19 =>
    if v19 ≤ x4 then
      some (x3, σ)
    else
      (am_gA σ 2 6 x0).bind fun v20 =>
      (f_Bl_lineKind F σ x0 x1 x4).bind fun v21 =>
      (am_sI σ v20 v21 0).bind fun σ22 =>
      f_Bl_commonLength_l101 F x0 x1 x3 n (x4 + 1) σ22
theorem b_Bl_commonLength_l101 {g : am_G} {σ0 : am_S} (F : Nat) (x0 : Nat) (x1 : Int32) (x3 : Int32)   : ∀ (n : Nat) (x4 : Int32) (σ : am_S), am_W g mx_Bl_commonLength σ0 101 [some (.ref x0), some (.int x1), none, some (.int x3), some (.int x4), none] [] σ (f_Bl_commonLength_l101 F x0 x1 x3 n x4 σ) am_kI := by
  intro n
  induction n with
  | zero =>
    intro x4 σ
    rw [f_Bl_commonLength_l101]
    exact am_W.none
  | succ n ih =>
    intro x4 σ
    rw [f_Bl_commonLength_l101]
    refine aw_iload 4 (kk := ?_)
    refine aw_aload_n 0 (kk := ?_)
    refine aw_gA 2 4 27 (hw := wd_101) (kk := fun v18 => ?_)
    refine aw_iload_n 1 (kk := ?_)
    refine aw_lI (kk := fun v19 => ?_)
    refine aw_icmp_ge 22 131 (kt := fun _ => ?_) (kf := fun _ => ?_)
    · refine aw_iload_n 3 (kk := ?_)
      exact aw_iret
    · refine aw_aload_n 0 (kk := ?_)
      refine aw_gA 2 6 39 (hw := wd_103) (kk := fun v20 => ?_)
      refine aw_aload_n 0 (kk := ?_)
      refine aw_iload_n 1 (kk := ?_)
      refine aw_iload 4 (kk := ?_)
      refine ac_PI (st := [.ref v20]) [.ref x0, .int x1, .int x4] (ag_V 99 2 rc_Bl_lineKind wd_746 cal_Bl_lineKind wd_747 wd_748) cal_Bl_lineKind ⟨by decide, by decide⟩ (Nat.le_of_ble_eq_true rfl) (m_Bl_lineKind g F σ x0 x1 x4) (fun v21 => ?_)
      refine aw_iconst 0 (v := 0) (kk := ?_)
      refine aw_sI (kk := fun σ22 => ?_)
      refine aw_iinc 4 1 (v := 1) (kk := ?_)
      refine aw_goto (-27) 101 (kk := ?_)
      exact am_W.drop [true, true, false, true, true, false] (ih (x4 + 1) σ22)
def f_Bl_commonLength_j98 (F : Nat) (x0 : Nat) (x1 : Int32) (x3 : Int32)  (σ : am_S) : Option (Int32 × am_S) :=
  f_Bl_commonLength_l101 F x0 x1 x3 F 0 σ
theorem b_Bl_commonLength_j98 {g : am_G} {σ0 : am_S} (F : Nat) (x0 : Nat) (x1 : Int32) (x3 : Int32)   (σ : am_S) : am_W g mx_Bl_commonLength σ0 98 [some (.ref x0), some (.int x1), none, some (.int x3), none, none] [] σ (f_Bl_commonLength_j98 F x0 x1 x3 σ) am_kI := by
  unfold f_Bl_commonLength_j98
  refine aw_iconst 0 (v := 0) (kk := ?_)
  refine aw_istore 4 (kk := ?_)
  exact am_W.drop [true, true, false, true, true, false] (b_Bl_commonLength_l101 F x0 x1 x3 F 0 σ)
def f_Bl_commonLength_j33 (F : Nat) (x0 : Nat) (x1 : Int32) (x2 : Int32)  (σ : am_S) : Option (Int32 × am_S) :=
  f_Bl_commonLength_l38 F x0 x2 (fun y3 τ => f_Bl_commonLength_j98 F x0 x1 y3 τ) F 0 0 σ
theorem b_Bl_commonLength_j33 {g : am_G} {σ0 : am_S} (F : Nat) (x0 : Nat) (x1 : Int32) (x2 : Int32)   (σ : am_S) : am_W g mx_Bl_commonLength σ0 33 [some (.ref x0), some (.int x1), some (.int x2), none, none, none] [] σ (f_Bl_commonLength_j33 F x0 x1 x2 σ) am_kI := by
  unfold f_Bl_commonLength_j33
  refine aw_iconst 0 (v := 0) (kk := ?_)
  refine aw_istore_n 3 (kk := ?_)
  refine aw_iconst 0 (v := 0) (kk := ?_)
  refine aw_istore 4 (kk := ?_)
  exact am_W.drop [true, true, true, true, true, false] (b_Bl_commonLength_l38 F x0 x1 x2 (fun y3 τ => f_Bl_commonLength_j98 F x0 x1 y3 τ) (fun y3 τ => am_W.drop [true, true, false, true, false, false] (b_Bl_commonLength_j98 F x0 x1 y3 τ)) F 0 0 σ)
def f_Bl_commonLength (F : Nat) (σ : am_S) (x0 : Nat) (x1 : Int32) (x2 : Int32) : Option (Int32 × am_S) :=
  am_ck σ 2 x0 (
  f_Bl_commonLength_l2 F x0 x1 (fun τ => f_Bl_commonLength_j33 F x0 x1 x2 τ) F 0 σ)
theorem rc_Bl_commonLength {F : Nat} {σ : am_S} {x0 : Nat} {x1 : Int32} {x2 : Int32} (h : (f_Bl_commonLength F σ x0 x1 x2).isSome = true) : ∃ fs, σ.2.2 x0 = some (.inr (2, fs)) := am_ck_some h
theorem m_Bl_commonLength (g : am_G) (F : Nat) (σ : am_S) (x0 : Nat) (x1 : Int32) (x2 : Int32) : am_Met g mx_Bl_commonLength [.ref x0, .int x1, .int x2] σ ((f_Bl_commonLength F σ x0 x1 x2).bind am_kI) := by
  refine am_Met.of (lv := [some (.ref x0), some (.int x1), some (.int x2), none, none, none]) (am_cc rfl (am_cc rfl (am_cc rfl am_c0))) (Nat.le_of_ble_eq_true rfl) rfl (by decide) ?_
  unfold f_Bl_commonLength
  refine am_W.ck ?_
  refine aw_iconst 0 (v := 0) (kk := ?_)
  refine aw_istore_n 3 (kk := ?_)
  exact am_W.drop [true, true, true, true, false, false] (b_Bl_commonLength_l2 F x0 x1 x2 (fun τ => f_Bl_commonLength_j33 F x0 x1 x2 τ) (fun τ => am_W.drop [true, true, true, false, false, false] (b_Bl_commonLength_j33 F x0 x1 x2 τ)) F 0 σ)
def f_Bl_score (F : Nat) (σ : am_S) (x0 : Nat) (x1 : Int32) (x2 : Int32) : Option (Int32 × am_S) :=
  am_ck σ 2 x0 (
  if x1 = x2 then
    some (1000, σ)
  else
    (f_Bl_lengthOf F σ x0 x1).bind fun v1 =>
    (f_Bl_lengthOf F σ x0 x2).bind fun v2 =>
    (am_gA σ 2 2 x0).bind fun v3 =>
    (am_lI σ .boolean v3 x1).bind fun v4 =>
    if v4 = 0 then
      (am_gA σ 2 2 x0).bind fun v5 =>
      (am_lI σ .boolean v5 x2).bind fun v6 =>
      if v6 = 0 then
        if (am_max v1 v2) = 0 then
          some (0, σ)
        else
          am_b2 (f_Bl_commonLength F σ x0 x1 x2) fun v7 σ8 =>
          if (am_max v1 v2) = 0 then none else
          some (((1000 * v7) / (am_max v1 v2)), σ8)
      else
        some (0, σ)
    else
      some (0, σ))
theorem rc_Bl_score {F : Nat} {σ : am_S} {x0 : Nat} {x1 : Int32} {x2 : Int32} (h : (f_Bl_score F σ x0 x1 x2).isSome = true) : ∃ fs, σ.2.2 x0 = some (.inr (2, fs)) := am_ck_some h
theorem m_Bl_score (g : am_G) (F : Nat) (σ : am_S) (x0 : Nat) (x1 : Int32) (x2 : Int32) : am_Met g mx_Bl_score [.ref x0, .int x1, .int x2] σ ((f_Bl_score F σ x0 x1 x2).bind am_kI) := by
  refine am_Met.of (lv := [some (.ref x0), some (.int x1), some (.int x2), none]) (am_cc rfl (am_cc rfl (am_cc rfl am_c0))) (Nat.le_of_ble_eq_true rfl) rfl (by decide) ?_
  unfold f_Bl_score
  refine am_W.ck ?_
  refine aw_iload_n 1 (kk := ?_)
  refine aw_iload_n 2 (kk := ?_)
  refine aw_icmp_ne 7 9 (kt := fun _ => ?_) (kf := fun _ => ?_)
  · refine aw_aload_n 0 (kk := ?_)
    refine aw_iload_n 1 (kk := ?_)
    refine ac_PI (st := []) [.ref x0, .int x1] (ag_V 50 2 rc_Bl_lengthOf wd_592 cal_Bl_lengthOf wd_593 wd_594) cal_Bl_lengthOf ⟨by decide, by decide⟩ (Nat.le_of_ble_eq_true rfl) (m_Bl_lengthOf g F σ x0 x1) (fun v1 => ?_)
    refine aw_aload_n 0 (kk := ?_)
    refine aw_iload_n 2 (kk := ?_)
    refine ac_PI (st := [.int v1]) [.ref x0, .int x2] (ag_V 50 2 rc_Bl_lengthOf wd_592 cal_Bl_lengthOf wd_593 wd_594) cal_Bl_lengthOf ⟨by decide, by decide⟩ (Nat.le_of_ble_eq_true rfl) (m_Bl_lengthOf g F σ x0 x2) (fun v2 => ?_)
    refine aw_max 72 (hw := wd_739) (hw2 := wd_740) (hw3 := wd_21) (hw4 := wd_741) (hr := Nat.le_of_ble_eq_true rfl) (kk := ?_)
    refine aw_istore_n 3 (kk := ?_)
    refine aw_aload_n 0 (kk := ?_)
    refine aw_gA 2 2 20 (hw := wd_99) (kk := fun v3 => ?_)
    refine aw_iload_n 1 (kk := ?_)
    refine aw_lZ (kk := fun v4 => ?_)
    refine aw_if_ne 16 45 (kt := fun _ => ?_) (kf := fun _ => ?_)
    · refine aw_iconst 0 (v := 0) (kk := ?_)
      exact aw_iret
    · refine aw_aload_n 0 (kk := ?_)
      refine aw_gA 2 2 20 (hw := wd_99) (kk := fun v5 => ?_)
      refine aw_iload_n 2 (kk := ?_)
      refine aw_lZ (kk := fun v6 => ?_)
      refine aw_if_ne 7 45 (kt := fun _ => ?_) (kf := fun _ => ?_)
      · refine aw_iconst 0 (v := 0) (kk := ?_)
        exact aw_iret
      · refine aw_iload_n 3 (kk := ?_)
        refine aw_if_ne 5 47 (kt := fun _ => ?_) (kf := fun _ => ?_)
        · refine aw_sipush 1000 (v := 1000) (kk := ?_)
          refine aw_aload_n 0 (kk := ?_)
          refine aw_iload_n 1 (kk := ?_)
          refine aw_iload_n 2 (kk := ?_)
          refine ac_I (st := [.int 1000]) [.ref x0, .int x1, .int x2] (ag_V 78 2 rc_Bl_commonLength wd_742 cal_Bl_commonLength wd_744 ws_23) cal_Bl_commonLength ⟨by decide, by decide⟩ (Nat.le_of_ble_eq_true rfl) (m_Bl_commonLength g F σ x0 x1 x2) (fun v7 σ8 => ?_)
          refine aw_imul (kk := ?_)
          refine aw_iload_n 3 (kk := ?_)
          refine aw_idivZ (kk := fun _ => ?_)
          exact aw_iret
        · refine aw_iconst 0 (v := 0) (kk := ?_)
          exact aw_iret
  · refine aw_sipush 1000 (v := 1000) (kk := ?_)
    exact aw_iret
def f_Bl_isRough (F : Nat) (σ : am_S) (x0 : Nat) (x1 : Int32) : Option (Int32) :=
  am_ck σ 2 x0 (
  if x1 < 0 then
    some 0
  else
    (am_gA σ 2 2 x0).bind fun v1 =>
    (am_lI σ .boolean v1 x1).bind fun v2 =>
    if v2 = 0 then
      some 0
    else
      some 1)
theorem rc_Bl_isRough {F : Nat} {σ : am_S} {x0 : Nat} {x1 : Int32} (h : (f_Bl_isRough F σ x0 x1).isSome = true) : ∃ fs, σ.2.2 x0 = some (.inr (2, fs)) := am_ck_some h
theorem m_Bl_isRough (g : am_G) (F : Nat) (σ : am_S) (x0 : Nat) (x1 : Int32) : am_Met g mx_Bl_isRough [.ref x0, .int x1] σ ((f_Bl_isRough F σ x0 x1).bind (am_kPI σ)) := by
  refine am_Met.of (lv := [some (.ref x0), some (.int x1)]) (am_cc rfl (am_cc rfl am_c0)) (Nat.le_of_ble_eq_true rfl) rfl (by decide) ?_
  unfold f_Bl_isRough
  refine am_W.ck ?_
  refine aw_iload_n 1 (kk := ?_)
  refine aw_if_lt 16 17 (kt := fun _ => ?_) (kf := fun _ => ?_)
  · refine aw_iconst 0 (v := 0) (kk := ?_)
    exact aw_zretPL (by decide)
  · refine aw_aload_n 0 (kk := ?_)
    refine aw_gA 2 2 20 (hw := wd_99) (kk := fun v1 => ?_)
    refine aw_iload_n 1 (kk := ?_)
    refine aw_lZ (kk := fun v2 => ?_)
    refine aw_if_eq 7 17 (kt := fun _ => ?_) (kf := fun _ => ?_)
    · refine aw_iconst 0 (v := 0) (kk := ?_)
      exact aw_zretPL (by decide)
    · refine aw_iconst 1 (v := 1) (kk := ?_)
      refine aw_goto 4 18 (kk := ?_)
      exact aw_zretPL (by decide)
def f_Bl_lineCount (F : Nat) (σ : am_S) (x0 : Nat) (x1 : Int32) : Option (Int32) :=
  am_ck σ 2 x0 (
  if 0 ≤ x1 then
    (am_gA σ 2 4 x0).bind fun v1 =>
    (am_lI σ .int v1 x1).bind fun v2 =>
    some v2
  else
    some 0)
theorem rc_Bl_lineCount {F : Nat} {σ : am_S} {x0 : Nat} {x1 : Int32} (h : (f_Bl_lineCount F σ x0 x1).isSome = true) : ∃ fs, σ.2.2 x0 = some (.inr (2, fs)) := am_ck_some h
theorem m_Bl_lineCount (g : am_G) (F : Nat) (σ : am_S) (x0 : Nat) (x1 : Int32) : am_Met g mx_Bl_lineCount [.ref x0, .int x1] σ ((f_Bl_lineCount F σ x0 x1).bind (am_kPI σ)) := by
  refine am_Met.of (lv := [some (.ref x0), some (.int x1)]) (am_cc rfl (am_cc rfl am_c0)) (Nat.le_of_ble_eq_true rfl) rfl (by decide) ?_
  unfold f_Bl_lineCount
  refine am_W.ck ?_
  refine aw_iload_n 1 (kk := ?_)
  refine aw_if_ge 7 8 (kt := fun _ => ?_) (kf := fun _ => ?_)
  · refine aw_aload_n 0 (kk := ?_)
    refine aw_gA 2 4 27 (hw := wd_101) (kk := fun v1 => ?_)
    refine aw_iload_n 1 (kk := ?_)
    refine aw_lI (kk := fun v2 => ?_)
    exact aw_iretP
  · refine aw_iconst 0 (v := 0) (kk := ?_)
    refine aw_goto 9 14 (kk := ?_)
    exact aw_iretP
def f_Bl_lineStart (F : Nat) (σ : am_S) (x0 : Nat) (x1 : Int32) (x2 : Int32) : Option (Int32) :=
  am_ck σ 2 x0 (
  (am_gA σ 2 4 x0).bind fun v1 =>
  (am_lI σ .int v1 x1).bind fun v2 =>
  if v2 ≤ x2 then
    (am_gA σ 2 1 x0).bind fun v3 =>
    (am_lI σ .int v3 (x1 + 1)).bind fun v4 =>
    some v4
  else
    (am_gA σ 2 5 x0).bind fun v5 =>
    (am_gA σ 3 1 v5).bind fun v6 =>
    (am_gA σ 2 3 x0).bind fun v7 =>
    (am_lI σ .int v7 x1).bind fun v8 =>
    (am_lI σ .int v6 (v8 + x2)).bind fun v9 =>
    some v9)
theorem rc_Bl_lineStart {F : Nat} {σ : am_S} {x0 : Nat} {x1 : Int32} {x2 : Int32} (h : (f_Bl_lineStart F σ x0 x1 x2).isSome = true) : ∃ fs, σ.2.2 x0 = some (.inr (2, fs)) := am_ck_some h
theorem m_Bl_lineStart (g : am_G) (F : Nat) (σ : am_S) (x0 : Nat) (x1 : Int32) (x2 : Int32) : am_Met g mx_Bl_lineStart [.ref x0, .int x1, .int x2] σ ((f_Bl_lineStart F σ x0 x1 x2).bind (am_kPI σ)) := by
  refine am_Met.of (lv := [some (.ref x0), some (.int x1), some (.int x2)]) (am_cc rfl (am_cc rfl (am_cc rfl am_c0))) (Nat.le_of_ble_eq_true rfl) rfl (by decide) ?_
  unfold f_Bl_lineStart
  refine am_W.ck ?_
  refine aw_iload_n 2 (kk := ?_)
  refine aw_aload_n 0 (kk := ?_)
  refine aw_gA 2 4 27 (hw := wd_101) (kk := fun v1 => ?_)
  refine aw_iload_n 1 (kk := ?_)
  refine aw_lI (kk := fun v2 => ?_)
  refine aw_icmp_ge 22 29 (kt := fun _ => ?_) (kf := fun _ => ?_)
  · refine aw_aload_n 0 (kk := ?_)
    refine aw_gA 2 1 16 (hw := wd_98) (kk := fun v3 => ?_)
    refine aw_iload_n 1 (kk := ?_)
    refine aw_iconst 1 (v := 1) (kk := ?_)
    refine aw_iadd (kk := ?_)
    refine aw_lI (kk := fun v4 => ?_)
    exact aw_iretP
  · refine aw_aload_n 0 (kk := ?_)
    refine aw_gA 2 5 35 (hw := wd_102) (kk := fun v5 => ?_)
    refine aw_gAN 3 1 49 "MapMerger" (hw := wd_72) (kk := fun v6 => ?_)
    refine aw_aload_n 0 (kk := ?_)
    refine aw_gA 2 3 24 (hw := wd_100) (kk := fun v7 => ?_)
    refine aw_iload_n 1 (kk := ?_)
    refine aw_lI (kk := fun v8 => ?_)
    refine aw_iload_n 2 (kk := ?_)
    refine aw_iadd (kk := ?_)
    refine aw_lI (kk := fun v9 => ?_)
    refine aw_goto 11 37 (kk := ?_)
    exact aw_iretP
def f_Bl_bytes (F : Nat) (σ : am_S) (x0 : Nat) : Option (Nat) :=
  am_ck σ 2 x0 (
  (am_gA σ 2 0 x0).bind fun v1 =>
  some v1)
theorem rc_Bl_bytes {F : Nat} {σ : am_S} {x0 : Nat} (h : (f_Bl_bytes F σ x0).isSome = true) : ∃ fs, σ.2.2 x0 = some (.inr (2, fs)) := am_ck_some h
theorem m_Bl_bytes (g : am_G) (F : Nat) (σ : am_S) (x0 : Nat) : am_Met g mx_Bl_bytes [.ref x0] σ ((f_Bl_bytes F σ x0).bind (am_kPA σ)) := by
  refine am_Met.of (lv := [some (.ref x0)]) (am_cc rfl am_c0) (Nat.le_of_ble_eq_true rfl) rfl (by decide) ?_
  unfold f_Bl_bytes
  refine am_W.ck ?_
  refine aw_aload_n 0 (kk := ?_)
  refine aw_gA 2 0 10 (hw := wd_97) (kk := fun v1 => ?_)
  exact aw_aretP
def f_Bl_startOf (F : Nat) (σ : am_S) (x0 : Nat) (x1 : Int32) : Option (Int32) :=
  am_ck σ 2 x0 (
  (am_gA σ 2 1 x0).bind fun v1 =>
  (am_lI σ .int v1 x1).bind fun v2 =>
  some v2)
theorem rc_Bl_startOf {F : Nat} {σ : am_S} {x0 : Nat} {x1 : Int32} (h : (f_Bl_startOf F σ x0 x1).isSome = true) : ∃ fs, σ.2.2 x0 = some (.inr (2, fs)) := am_ck_some h
theorem m_Bl_startOf (g : am_G) (F : Nat) (σ : am_S) (x0 : Nat) (x1 : Int32) : am_Met g mx_Bl_startOf [.ref x0, .int x1] σ ((f_Bl_startOf F σ x0 x1).bind (am_kPI σ)) := by
  refine am_Met.of (lv := [some (.ref x0), some (.int x1)]) (am_cc rfl (am_cc rfl am_c0)) (Nat.le_of_ble_eq_true rfl) rfl (by decide) ?_
  unfold f_Bl_startOf
  refine am_W.ck ?_
  refine aw_aload_n 0 (kk := ?_)
  refine aw_gA 2 1 16 (hw := wd_98) (kk := fun v1 => ?_)
  refine aw_iload_n 1 (kk := ?_)
  refine aw_lI (kk := fun v2 => ?_)
  exact aw_iretP
def f_Bl_byteAt (F : Nat) (σ : am_S) (x0 : Nat) (x1 : Int32) (x2 : Int32) : Option (Int32) :=
  am_ck σ 2 x0 (
  (am_gA σ 2 0 x0).bind fun v1 =>
  (am_gA σ 2 1 x0).bind fun v2 =>
  (am_lI σ .int v2 x1).bind fun v3 =>
  (am_lI σ .byte v1 (v3 + x2)).bind fun v4 =>
  some (v4 &&& 255))
theorem rc_Bl_byteAt {F : Nat} {σ : am_S} {x0 : Nat} {x1 : Int32} {x2 : Int32} (h : (f_Bl_byteAt F σ x0 x1 x2).isSome = true) : ∃ fs, σ.2.2 x0 = some (.inr (2, fs)) := am_ck_some h
theorem m_Bl_byteAt (g : am_G) (F : Nat) (σ : am_S) (x0 : Nat) (x1 : Int32) (x2 : Int32) : am_Met g mx_Bl_byteAt [.ref x0, .int x1, .int x2] σ ((f_Bl_byteAt F σ x0 x1 x2).bind (am_kPI σ)) := by
  refine am_Met.of (lv := [some (.ref x0), some (.int x1), some (.int x2)]) (am_cc rfl (am_cc rfl (am_cc rfl am_c0))) (Nat.le_of_ble_eq_true rfl) rfl (by decide) ?_
  unfold f_Bl_byteAt
  refine am_W.ck ?_
  refine aw_aload_n 0 (kk := ?_)
  refine aw_gA 2 0 10 (hw := wd_97) (kk := fun v1 => ?_)
  refine aw_aload_n 0 (kk := ?_)
  refine aw_gA 2 1 16 (hw := wd_98) (kk := fun v2 => ?_)
  refine aw_iload_n 1 (kk := ?_)
  refine aw_lI (kk := fun v3 => ?_)
  refine aw_iload_n 2 (kk := ?_)
  refine aw_iadd (kk := ?_)
  refine aw_lB (kk := fun v4 => ?_)
  refine aw_sipush 255 (v := 255) (kk := ?_)
  refine aw_iand (kk := ?_)
  exact aw_iretP
def f_Bl_size (F : Nat) (σ : am_S) (x0 : Nat) : Option (Int32) :=
  am_ck σ 2 x0 (
  (am_gI σ 2 7 x0).bind fun v1 =>
  some v1)
theorem rc_Bl_size {F : Nat} {σ : am_S} {x0 : Nat} (h : (f_Bl_size F σ x0).isSome = true) : ∃ fs, σ.2.2 x0 = some (.inr (2, fs)) := am_ck_some h
theorem m_Bl_size (g : am_G) (F : Nat) (σ : am_S) (x0 : Nat) : am_Met g mx_Bl_size [.ref x0] σ ((f_Bl_size F σ x0).bind (am_kPI σ)) := by
  refine am_Met.of (lv := [some (.ref x0)]) (am_cc rfl am_c0) (Nat.le_of_ble_eq_true rfl) rfl (by decide) ?_
  unfold f_Bl_size
  refine am_W.ck ?_
  refine aw_aload_n 0 (kk := ?_)
  refine aw_gI 2 7 42 (hw := wd_104) (kk := fun v1 => ?_)
  exact aw_iretP
