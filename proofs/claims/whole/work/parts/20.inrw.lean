/-! ===== printed by wip/gen ===== -/
def f_In_init (F : Nat) (σ : am_S) (x0 : Nat) : Option (am_S) :=
  am_ck σ 1 x0 (
  am_b2 (am_na σ .byte 16384) fun a1 σ2 =>
  (am_pA σ2 1 0 x0 a1).bind fun σ3 =>
  am_b2 (am_na σ3 .int 4) fun a4 σ5 =>
  (am_pA σ5 1 1 x0 a4).bind fun σ6 =>
  some σ6)
theorem rc_In_init {F : Nat} {σ : am_S} {x0 : Nat} (h : (f_In_init F σ x0).isSome = true) : ∃ fs, σ.2.2 x0 = some (.inr (1, fs)) := am_ck_some h
theorem m_In_init (g : am_G) (F : Nat) (σ : am_S) (x0 : Nat) : am_Met g mx_In_init [.ref x0] σ ((f_In_init F σ x0).bind am_kV) := by
  refine am_Met.of (lv := [some (.ref x0)]) (am_cc rfl am_c0) (Nat.le_of_ble_eq_true rfl) rfl (by decide) ?_
  unfold f_In_init
  refine am_W.ck ?_
  refine aw_aload_n 0 (kk := ?_)
  refine aw_obj 3 (hw := wd_40) (hw2 := wd_33) (hw3 := wd_34) (hr := Nat.le_of_ble_eq_true rfl) (kk := ?_)
  refine aw_aload_n 0 (kk := ?_)
  refine aw_sipush 16384 (v := 16384) (kk := ?_)
  refine aw_na2 .byte (hw := wd_54) (kk := fun a1 σ2 => ?_)
  refine aw_pAF 1 0 9 (hw := wd_41) (kk := fun σ3 => ?_)
  refine aw_aload_n 0 (kk := ?_)
  refine aw_iconst 4 (v := 4) (kk := ?_)
  refine aw_na2 .int (hw := wd_55) (kk := fun a4 σ5 => ?_)
  refine aw_pAF 1 1 15 (hw := wd_42) (kk := fun σ6 => ?_)
  exact aw_vret
def f_In_hasRoomFor (F : Nat) (σ : am_S) (x0 : Nat) (x1 : Int32) : Option (Int32) :=
  am_ck σ 1 x0 (
  (am_gI σ 1 3 x0).bind fun v1 =>
  if 16384 < (v1 + x1) then
    some 0
  else
    some 1)
theorem rc_In_hasRoomFor {F : Nat} {σ : am_S} {x0 : Nat} {x1 : Int32} (h : (f_In_hasRoomFor F σ x0 x1).isSome = true) : ∃ fs, σ.2.2 x0 = some (.inr (1, fs)) := am_ck_some h
theorem m_In_hasRoomFor (g : am_G) (F : Nat) (σ : am_S) (x0 : Nat) (x1 : Int32) : am_Met g mx_In_hasRoomFor [.ref x0, .int x1] σ ((f_In_hasRoomFor F σ x0 x1).bind (am_kPI σ)) := by
  refine am_Met.of (lv := [some (.ref x0), some (.int x1)]) (am_cc rfl (am_cc rfl am_c0)) (Nat.le_of_ble_eq_true rfl) rfl (by decide) ?_
  unfold f_In_hasRoomFor
  refine am_W.ck ?_
  refine aw_aload_n 0 (kk := ?_)
  refine aw_gI 1 3 27 (hw := wd_44) (kk := fun v1 => ?_)
  refine aw_iload_n 1 (kk := ?_)
  refine aw_iadd (kk := ?_)
  refine aw_sipush 16384 (v := 16384) (kk := ?_)
  refine aw_icmp_gt 7 16 (kt := fun _ => ?_) (kf := fun _ => ?_)
  · refine aw_iconst 0 (v := 0) (kk := ?_)
    exact aw_zretPL (by decide)
  · refine aw_iconst 1 (v := 1) (kk := ?_)
    refine aw_goto 4 17 (kk := ?_)
    exact aw_zretPL (by decide)
def f_In_addNumber_l3 (F : Nat) (x0 : Nat) (x1 : Int32)  : Nat → Int32 → am_S → Option (am_S)
  | 0, _, _ => none
  | n + 1, x2, σ =>
    if x2 < 0 then
      some σ
    else
      (am_gA σ 1 0 x0).bind fun v1 =>
      (am_gI σ 1 3 x0).bind fun v2 =>
      (am_sB σ v1 v2 (am_i2b (am_ushr x1 x2))).bind fun σ3 =>
      (am_gI σ3 1 3 x0).bind fun v4 =>
      (am_pI σ3 1 3 x0 (v4 + 1)).bind fun σ5 =>
      f_In_addNumber_l3 F x0 x1 n (x2 + (-8)) σ5
theorem b_In_addNumber_l3 {g : am_G} {σ0 : am_S} (F : Nat) (x0 : Nat) (x1 : Int32)   : ∀ (n : Nat) (x2 : Int32) (σ : am_S), am_W g mx_In_addNumber σ0 3 [some (.ref x0), some (.int x1), some (.int x2)] [] σ (f_In_addNumber_l3 F x0 x1 n x2 σ) am_kV := by
  intro n
  induction n with
  | zero =>
    intro x2 σ
    rw [f_In_addNumber_l3]
    exact am_W.none
  | succ n ih =>
    intro x2 σ
    rw [f_In_addNumber_l3]
    refine aw_iload_n 2 (kk := ?_)
    refine aw_if_lt 32 36 (kt := fun _ => ?_) (kf := fun _ => ?_)
    · exact aw_vret
    · refine aw_aload_n 0 (kk := ?_)
      refine aw_gA 1 0 9 (hw := wd_41) (kk := fun v1 => ?_)
      refine aw_aload_n 0 (kk := ?_)
      refine aw_gI 1 3 27 (hw := wd_44) (kk := fun v2 => ?_)
      refine aw_iload_n 1 (kk := ?_)
      refine aw_iload_n 2 (kk := ?_)
      refine aw_iushr (kk := ?_)
      refine aw_i2b (kk := ?_)
      refine aw_sB (kk := fun σ3 => ?_)
      refine aw_aload_n 0 (kk := ?_)
      refine aw_dup (kk := ?_)
      refine aw_gI 1 3 27 (hw := wd_44) (kk := fun v4 => ?_)
      refine aw_iconst 1 (v := 1) (kk := ?_)
      refine aw_iadd (kk := ?_)
      refine aw_pI 1 3 27 (hw := wd_44) (kk := fun σ5 => ?_)
      refine aw_iinc 2 (-8) (v := (-8)) (kk := ?_)
      refine aw_goto (-30) 3 (kk := ?_)
      exact am_W.drop [true, true, true] (ih (x2 + (-8)) σ5)
def f_In_addNumber (F : Nat) (σ : am_S) (x0 : Nat) (x1 : Int32) : Option (am_S) :=
  am_ck σ 1 x0 (
  f_In_addNumber_l3 F x0 x1 F 24 σ)
theorem rc_In_addNumber {F : Nat} {σ : am_S} {x0 : Nat} {x1 : Int32} (h : (f_In_addNumber F σ x0 x1).isSome = true) : ∃ fs, σ.2.2 x0 = some (.inr (1, fs)) := am_ck_some h
theorem m_In_addNumber (g : am_G) (F : Nat) (σ : am_S) (x0 : Nat) (x1 : Int32) : am_Met g mx_In_addNumber [.ref x0, .int x1] σ ((f_In_addNumber F σ x0 x1).bind am_kV) := by
  refine am_Met.of (lv := [some (.ref x0), some (.int x1), none]) (am_cc rfl (am_cc rfl am_c0)) (Nat.le_of_ble_eq_true rfl) rfl (by decide) ?_
  unfold f_In_addNumber
  refine am_W.ck ?_
  refine aw_bipush 24 (v := 24) (kk := ?_)
  refine aw_istore_n 2 (kk := ?_)
  exact am_W.drop [true, true, true] (b_In_addNumber_l3 F x0 x1 F 24 σ)
def f_In_argumentStart (F : Nat) (σ : am_S) (x0 : Nat) (x1 : Int32) : Option (Int32) :=
  am_ck σ 1 x0 (
  if x1 = 0 then
    some 0
  else
    (am_gA σ 1 1 x0).bind fun v1 =>
    (am_lI σ .int v1 (x1 - 1)).bind fun v2 =>
    some v2)
theorem rc_In_argumentStart {F : Nat} {σ : am_S} {x0 : Nat} {x1 : Int32} (h : (f_In_argumentStart F σ x0 x1).isSome = true) : ∃ fs, σ.2.2 x0 = some (.inr (1, fs)) := am_ck_some h
theorem m_In_argumentStart (g : am_G) (F : Nat) (σ : am_S) (x0 : Nat) (x1 : Int32) : am_Met g mx_In_argumentStart [.ref x0, .int x1] σ ((f_In_argumentStart F σ x0 x1).bind (am_kPI σ)) := by
  refine am_Met.of (lv := [some (.ref x0), some (.int x1)]) (am_cc rfl (am_cc rfl am_c0)) (Nat.le_of_ble_eq_true rfl) rfl (by decide) ?_
  unfold f_In_argumentStart
  refine am_W.ck ?_
  refine aw_iload_n 1 (kk := ?_)
  refine aw_if_ne 7 8 (kt := fun _ => ?_) (kf := fun _ => ?_)
  · refine aw_aload_n 0 (kk := ?_)
    refine aw_gA 1 1 15 (hw := wd_42) (kk := fun v1 => ?_)
    refine aw_iload_n 1 (kk := ?_)
    refine aw_iconst 1 (v := 1) (kk := ?_)
    refine aw_isub (kk := ?_)
    refine aw_lI (kk := fun v2 => ?_)
    exact aw_iretP
  · refine aw_iconst 0 (v := 0) (kk := ?_)
    refine aw_goto 11 16 (kk := ?_)
    exact aw_iretP
def f_In_inputLength (F : Nat) (σ : am_S) (x0 : Nat) : Option (Int32) :=
  am_ck σ 1 x0 (
  (am_gI σ 1 3 x0).bind fun v1 =>
  (am_gI σ 1 2 x0).bind fun v2 =>
  (f_In_argumentStart F σ x0 v2).bind fun v3 =>
  some (v1 - v3))
theorem rc_In_inputLength {F : Nat} {σ : am_S} {x0 : Nat} (h : (f_In_inputLength F σ x0).isSome = true) : ∃ fs, σ.2.2 x0 = some (.inr (1, fs)) := am_ck_some h
theorem m_In_inputLength (g : am_G) (F : Nat) (σ : am_S) (x0 : Nat) : am_Met g mx_In_inputLength [.ref x0] σ ((f_In_inputLength F σ x0).bind (am_kPI σ)) := by
  refine am_Met.of (lv := [some (.ref x0)]) (am_cc rfl am_c0) (Nat.le_of_ble_eq_true rfl) rfl (by decide) ?_
  unfold f_In_inputLength
  refine am_W.ck ?_
  refine aw_aload_n 0 (kk := ?_)
  refine aw_gI 1 3 27 (hw := wd_44) (kk := fun v1 => ?_)
  refine aw_aload_n 0 (kk := ?_)
  refine aw_aload_n 0 (kk := ?_)
  refine aw_gI 1 2 19 (hw := wd_43) (kk := fun v2 => ?_)
  refine ac_PI (st := [.int v1]) [.ref x0, .int v2] (ag_V 23 1 rc_In_argumentStart wd_376 cal_In_argumentStart wd_377 wd_378) cal_In_argumentStart ⟨by decide, by decide⟩ (Nat.le_of_ble_eq_true rfl) (m_In_argumentStart g F σ x0 v2) (fun v3 => ?_)
  refine aw_isub (kk := ?_)
  exact aw_iretP
def f_In_cutInput (F : Nat) (σ : am_S) (x0 : Nat) (x1 : Int32) : Option (am_S) :=
  am_ck σ 1 x0 (
  (am_gI σ 1 3 x0).bind fun v1 =>
  (am_pI σ 1 3 x0 (v1 - x1)).bind fun σ2 =>
  some σ2)
theorem rc_In_cutInput {F : Nat} {σ : am_S} {x0 : Nat} {x1 : Int32} (h : (f_In_cutInput F σ x0 x1).isSome = true) : ∃ fs, σ.2.2 x0 = some (.inr (1, fs)) := am_ck_some h
theorem m_In_cutInput (g : am_G) (F : Nat) (σ : am_S) (x0 : Nat) (x1 : Int32) : am_Met g mx_In_cutInput [.ref x0, .int x1] σ ((f_In_cutInput F σ x0 x1).bind am_kV) := by
  refine am_Met.of (lv := [some (.ref x0), some (.int x1)]) (am_cc rfl (am_cc rfl am_c0)) (Nat.le_of_ble_eq_true rfl) rfl (by decide) ?_
  unfold f_In_cutInput
  refine am_W.ck ?_
  refine aw_aload_n 0 (kk := ?_)
  refine aw_dup (kk := ?_)
  refine aw_gI 1 3 27 (hw := wd_44) (kk := fun v1 => ?_)
  refine aw_iload_n 1 (kk := ?_)
  refine aw_isub (kk := ?_)
  refine aw_pI 1 3 27 (hw := wd_44) (kk := fun σ2 => ?_)
  exact aw_vret
def f_In_removeFront (F : Nat) (σ : am_S) (x0 : Nat) (x1 : Int32) : Option (am_S) :=
  am_ck σ 1 x0 (
  (am_gA σ 1 0 x0).bind fun v1 =>
  (am_gA σ 1 0 x0).bind fun v2 =>
  (am_gI σ 1 3 x0).bind fun v3 =>
  (am_cp σ .byte v1 x1 v2 0 (v3 - x1)).bind fun σ4 =>
  (am_gI σ4 1 3 x0).bind fun v5 =>
  (am_pI σ4 1 3 x0 (v5 - x1)).bind fun σ6 =>
  some σ6)
theorem rc_In_removeFront {F : Nat} {σ : am_S} {x0 : Nat} {x1 : Int32} (h : (f_In_removeFront F σ x0 x1).isSome = true) : ∃ fs, σ.2.2 x0 = some (.inr (1, fs)) := am_ck_some h
theorem m_In_removeFront (g : am_G) (F : Nat) (σ : am_S) (x0 : Nat) (x1 : Int32) : am_Met g mx_In_removeFront [.ref x0, .int x1] σ ((f_In_removeFront F σ x0 x1).bind am_kV) := by
  refine am_Met.of (lv := [some (.ref x0), some (.int x1)]) (am_cc rfl (am_cc rfl am_c0)) (Nat.le_of_ble_eq_true rfl) rfl (by decide) ?_
  unfold f_In_removeFront
  refine am_W.ck ?_
  refine aw_aload_n 0 (kk := ?_)
  refine aw_gA 1 0 9 (hw := wd_41) (kk := fun v1 => ?_)
  refine aw_iload_n 1 (kk := ?_)
  refine aw_aload_n 0 (kk := ?_)
  refine aw_gA 1 0 9 (hw := wd_41) (kk := fun v2 => ?_)
  refine aw_iconst 0 (v := 0) (kk := ?_)
  refine aw_aload_n 0 (kk := ?_)
  refine aw_gI 1 3 27 (hw := wd_44) (kk := fun v3 => ?_)
  refine aw_iload_n 1 (kk := ?_)
  refine aw_isub (kk := ?_)
  refine aw_cp 37 .byte (hw := wd_503) (hw2 := wd_505) (hw3 := wd_504) (hw4 := wd_19) (hr := Nat.le_of_ble_eq_true rfl) (kk := fun σ4 => ?_)
  refine aw_aload_n 0 (kk := ?_)
  refine aw_dup (kk := ?_)
  refine aw_gI 1 3 27 (hw := wd_44) (kk := fun v5 => ?_)
  refine aw_iload_n 1 (kk := ?_)
  refine aw_isub (kk := ?_)
  refine aw_pI 1 3 27 (hw := wd_44) (kk := fun σ6 => ?_)
  exact aw_vret
def f_In_dropFirstArgument_l24 (F : Nat) (x0 : Nat) (x1 : Int32)  : Nat → Int32 → am_S → Option (am_S)
  | 0, _, _ => none
  | n + 1, x2, σ =>
    (am_gI σ 1 2 x0).bind fun v6 =>
    if v6 ≤ x2 then
      some σ
    else
      (am_gA σ 1 1 x0).bind fun v7 =>
      (am_gA σ 1 1 x0).bind fun v8 =>
      (am_lI σ .int v8 (x2 + 1)).bind fun v9 =>
      (am_sI σ v7 x2 (v9 - x1)).bind fun σ10 =>
      f_In_dropFirstArgument_l24 F x0 x1 n (x2 + 1) σ10
theorem b_In_dropFirstArgument_l24 {g : am_G} {σ0 : am_S} (F : Nat) (x0 : Nat) (x1 : Int32)   : ∀ (n : Nat) (x2 : Int32) (σ : am_S), am_W g mx_In_dropFirstArgument σ0 24 [some (.ref x0), some (.int x1), some (.int x2)] [] σ (f_In_dropFirstArgument_l24 F x0 x1 n x2 σ) am_kV := by
  intro n
  induction n with
  | zero =>
    intro x2 σ
    rw [f_In_dropFirstArgument_l24]
    exact am_W.none
  | succ n ih =>
    intro x2 σ
    rw [f_In_dropFirstArgument_l24]
    refine aw_iload_n 2 (kk := ?_)
    refine aw_aload_n 0 (kk := ?_)
    refine aw_gI 1 2 19 (hw := wd_43) (kk := fun v6 => ?_)
    refine aw_icmp_ge 25 54 (kt := fun _ => ?_) (kf := fun _ => ?_)
    · exact aw_vret
    · refine aw_aload_n 0 (kk := ?_)
      refine aw_gA 1 1 15 (hw := wd_42) (kk := fun v7 => ?_)
      refine aw_iload_n 2 (kk := ?_)
      refine aw_aload_n 0 (kk := ?_)
      refine aw_gA 1 1 15 (hw := wd_42) (kk := fun v8 => ?_)
      refine aw_iload_n 2 (kk := ?_)
      refine aw_iconst 1 (v := 1) (kk := ?_)
      refine aw_iadd (kk := ?_)
      refine aw_lI (kk := fun v9 => ?_)
      refine aw_iload_n 1 (kk := ?_)
      refine aw_isub (kk := ?_)
      refine aw_sI (kk := fun σ10 => ?_)
      refine aw_iinc 2 1 (v := 1) (kk := ?_)
      refine aw_goto (-27) 24 (kk := ?_)
      exact am_W.drop [true, true, true] (ih (x2 + 1) σ10)
def f_In_dropFirstArgument (F : Nat) (σ : am_S) (x0 : Nat) : Option (am_S) :=
  am_ck σ 1 x0 (
  (am_gA σ 1 1 x0).bind fun v1 =>
  (am_lI σ .int v1 0).bind fun v2 =>
  (f_In_removeFront F σ x0 v2).bind fun σ3 =>
  (am_gI σ3 1 2 x0).bind fun v4 =>
  (am_pI σ3 1 2 x0 (v4 - 1)).bind fun σ5 =>
  f_In_dropFirstArgument_l24 F x0 v2 F 0 σ5)
theorem rc_In_dropFirstArgument {F : Nat} {σ : am_S} {x0 : Nat} (h : (f_In_dropFirstArgument F σ x0).isSome = true) : ∃ fs, σ.2.2 x0 = some (.inr (1, fs)) := am_ck_some h
theorem m_In_dropFirstArgument (g : am_G) (F : Nat) (σ : am_S) (x0 : Nat) : am_Met g mx_In_dropFirstArgument [.ref x0] σ ((f_In_dropFirstArgument F σ x0).bind am_kV) := by
  refine am_Met.of (lv := [some (.ref x0), none, none]) (am_cc rfl am_c0) (Nat.le_of_ble_eq_true rfl) rfl (by decide) ?_
  unfold f_In_dropFirstArgument
  refine am_W.ck ?_
  refine aw_aload_n 0 (kk := ?_)
  refine aw_gA 1 1 15 (hw := wd_42) (kk := fun v1 => ?_)
  refine aw_iconst 0 (v := 0) (kk := ?_)
  refine aw_lI (kk := fun v2 => ?_)
  refine aw_istore_n 1 (kk := ?_)
  refine aw_aload_n 0 (kk := ?_)
  refine aw_iload_n 1 (kk := ?_)
  refine ac_V (st := []) [.ref x0, .int v2] (ag_V 33 1 rc_In_removeFront wd_499 cal_In_removeFront wd_501 ws_2) cal_In_removeFront ⟨by decide, by decide⟩ (Nat.le_of_ble_eq_true rfl) (m_In_removeFront g F σ x0 v2) (fun σ3 => ?_)
  refine aw_aload_n 0 (kk := ?_)
  refine aw_dup (kk := ?_)
  refine aw_gI 1 2 19 (hw := wd_43) (kk := fun v4 => ?_)
  refine aw_iconst 1 (v := 1) (kk := ?_)
  refine aw_isub (kk := ?_)
  refine aw_pI 1 2 19 (hw := wd_43) (kk := fun σ5 => ?_)
  refine aw_iconst 0 (v := 0) (kk := ?_)
  refine aw_istore_n 2 (kk := ?_)
  exact am_W.drop [true, true, true] (b_In_dropFirstArgument_l24 F x0 v2 F 0 σ5)
def f_In_makeArgument_j12 (F : Nat) (x0 : Nat)  (σ : am_S) : Option (am_S) :=
  (am_gA σ 1 1 x0).bind fun v2 =>
  (am_gI σ 1 2 x0).bind fun v3 =>
  (am_gI σ 1 3 x0).bind fun v4 =>
  (am_sI σ v2 v3 v4).bind fun σ5 =>
  (am_gI σ5 1 2 x0).bind fun v6 =>
  (am_pI σ5 1 2 x0 (v6 + 1)).bind fun σ7 =>
  some σ7
theorem b_In_makeArgument_j12 {g : am_G} {σ0 : am_S} (F : Nat) (x0 : Nat)   (σ : am_S) : am_W g mx_In_makeArgument σ0 12 [some (.ref x0)] [] σ (f_In_makeArgument_j12 F x0 σ) am_kV := by
  unfold f_In_makeArgument_j12
  refine aw_aload_n 0 (kk := ?_)
  refine aw_gA 1 1 15 (hw := wd_42) (kk := fun v2 => ?_)
  refine aw_aload_n 0 (kk := ?_)
  refine aw_gI 1 2 19 (hw := wd_43) (kk := fun v3 => ?_)
  refine aw_aload_n 0 (kk := ?_)
  refine aw_gI 1 3 27 (hw := wd_44) (kk := fun v4 => ?_)
  refine aw_sI (kk := fun σ5 => ?_)
  refine aw_aload_n 0 (kk := ?_)
  refine aw_dup (kk := ?_)
  refine aw_gI 1 2 19 (hw := wd_43) (kk := fun v6 => ?_)
  refine aw_iconst 1 (v := 1) (kk := ?_)
  refine aw_iadd (kk := ?_)
  refine aw_pI 1 2 19 (hw := wd_43) (kk := fun σ7 => ?_)
  exact aw_vret
def f_In_makeArgument (F : Nat) (σ : am_S) (x0 : Nat) : Option (am_S) :=
  am_ck σ 1 x0 (
  (am_gI σ 1 2 x0).bind fun v1 =>
  if v1 = 4 then
    (f_In_dropFirstArgument F σ x0).bind fun σ8 =>
    f_In_makeArgument_j12 F x0 σ8
  else
    f_In_makeArgument_j12 F x0 σ)
theorem rc_In_makeArgument {F : Nat} {σ : am_S} {x0 : Nat} (h : (f_In_makeArgument F σ x0).isSome = true) : ∃ fs, σ.2.2 x0 = some (.inr (1, fs)) := am_ck_some h
theorem m_In_makeArgument (g : am_G) (F : Nat) (σ : am_S) (x0 : Nat) : am_Met g mx_In_makeArgument [.ref x0] σ ((f_In_makeArgument F σ x0).bind am_kV) := by
  refine am_Met.of (lv := [some (.ref x0)]) (am_cc rfl am_c0) (Nat.le_of_ble_eq_true rfl) rfl (by decide) ?_
  unfold f_In_makeArgument
  refine am_W.ck ?_
  refine aw_aload_n 0 (kk := ?_)
  refine aw_gI 1 2 19 (hw := wd_43) (kk := fun v1 => ?_)
  refine aw_iconst 4 (v := 4) (kk := ?_)
  refine aw_icmp_ne 7 12 (kt := fun _ => ?_) (kf := fun _ => ?_)
  · exact am_W.drop [true] (b_In_makeArgument_j12 F x0 σ)
  · refine aw_aload_n 0 (kk := ?_)
    refine ac_V (st := []) [.ref x0] (ag_V 30 1 rc_In_dropFirstArgument wd_495 cal_In_dropFirstArgument wd_497 ws_1) cal_In_dropFirstArgument ⟨by decide, by decide⟩ (Nat.le_of_ble_eq_true rfl) (m_In_dropFirstArgument g F σ x0) (fun σ8 => ?_)
    exact am_W.drop [true] (b_In_makeArgument_j12 F x0 σ8)
def f_In_argumentCount (F : Nat) (σ : am_S) (x0 : Nat) : Option (Int32) :=
  am_ck σ 1 x0 (
  (am_gI σ 1 2 x0).bind fun v1 =>
  some v1)
theorem rc_In_argumentCount {F : Nat} {σ : am_S} {x0 : Nat} (h : (f_In_argumentCount F σ x0).isSome = true) : ∃ fs, σ.2.2 x0 = some (.inr (1, fs)) := am_ck_some h
theorem m_In_argumentCount (g : am_G) (F : Nat) (σ : am_S) (x0 : Nat) : am_Met g mx_In_argumentCount [.ref x0] σ ((f_In_argumentCount F σ x0).bind (am_kPI σ)) := by
  refine am_Met.of (lv := [some (.ref x0)]) (am_cc rfl am_c0) (Nat.le_of_ble_eq_true rfl) rfl (by decide) ?_
  unfold f_In_argumentCount
  refine am_W.ck ?_
  refine aw_aload_n 0 (kk := ?_)
  refine aw_gI 1 2 19 (hw := wd_43) (kk := fun v1 => ?_)
  exact aw_iretP
def f_In_bytes (F : Nat) (σ : am_S) (x0 : Nat) : Option (Nat) :=
  am_ck σ 1 x0 (
  (am_gA σ 1 0 x0).bind fun v1 =>
  some v1)
theorem rc_In_bytes {F : Nat} {σ : am_S} {x0 : Nat} (h : (f_In_bytes F σ x0).isSome = true) : ∃ fs, σ.2.2 x0 = some (.inr (1, fs)) := am_ck_some h
theorem m_In_bytes (g : am_G) (F : Nat) (σ : am_S) (x0 : Nat) : am_Met g mx_In_bytes [.ref x0] σ ((f_In_bytes F σ x0).bind (am_kPA σ)) := by
  refine am_Met.of (lv := [some (.ref x0)]) (am_cc rfl am_c0) (Nat.le_of_ble_eq_true rfl) rfl (by decide) ?_
  unfold f_In_bytes
  refine am_W.ck ?_
  refine aw_aload_n 0 (kk := ?_)
  refine aw_gA 1 0 9 (hw := wd_41) (kk := fun v1 => ?_)
  exact aw_aretP
def f_In_argumentLength (F : Nat) (σ : am_S) (x0 : Nat) (x1 : Int32) : Option (Int32) :=
  am_ck σ 1 x0 (
  (am_gA σ 1 1 x0).bind fun v1 =>
  (am_lI σ .int v1 x1).bind fun v2 =>
  (f_In_argumentStart F σ x0 x1).bind fun v3 =>
  some (v2 - v3))
theorem rc_In_argumentLength {F : Nat} {σ : am_S} {x0 : Nat} {x1 : Int32} (h : (f_In_argumentLength F σ x0 x1).isSome = true) : ∃ fs, σ.2.2 x0 = some (.inr (1, fs)) := am_ck_some h
theorem m_In_argumentLength (g : am_G) (F : Nat) (σ : am_S) (x0 : Nat) (x1 : Int32) : am_Met g mx_In_argumentLength [.ref x0, .int x1] σ ((f_In_argumentLength F σ x0 x1).bind (am_kPI σ)) := by
  refine am_Met.of (lv := [some (.ref x0), some (.int x1)]) (am_cc rfl (am_cc rfl am_c0)) (Nat.le_of_ble_eq_true rfl) rfl (by decide) ?_
  unfold f_In_argumentLength
  refine am_W.ck ?_
  refine aw_aload_n 0 (kk := ?_)
  refine aw_gA 1 1 15 (hw := wd_42) (kk := fun v1 => ?_)
  refine aw_iload_n 1 (kk := ?_)
  refine aw_lI (kk := fun v2 => ?_)
  refine aw_aload_n 0 (kk := ?_)
  refine aw_iload_n 1 (kk := ?_)
  refine ac_PI (st := [.int v2]) [.ref x0, .int x1] (ag_V 23 1 rc_In_argumentStart wd_376 cal_In_argumentStart wd_377 wd_378) cal_In_argumentStart ⟨by decide, by decide⟩ (Nat.le_of_ble_eq_true rfl) (m_In_argumentStart g F σ x0 x1) (fun v3 => ?_)
  refine aw_isub (kk := ?_)
  exact aw_iretP
def f_Rw_isDots (F : Nat) (σ : am_S) (x0 : Nat) (x1 : Int32) (x2 : Int32) : Option (Int32) :=
  if x2 = 1 then
    (am_lI σ .byte x0 x1).bind fun v3 =>
    if v3 = 46 then
      some 1
    else
      some 0
  else
    if x2 = 2 then
      (am_lI σ .byte x0 x1).bind fun v1 =>
      if v1 = 46 then
        (am_lI σ .byte x0 (x1 + 1)).bind fun v2 =>
        if v2 = 46 then
          some 1
        else
          some 0
      else
        some 0
    else
      some 0
theorem m_Rw_isDots (g : am_G) (F : Nat) (σ : am_S) (x0 : Nat) (x1 : Int32) (x2 : Int32) : am_Met g mx_Rw_isDots [.ref x0, .int x1, .int x2] σ ((f_Rw_isDots F σ x0 x1 x2).bind (am_kPI σ)) := by
  refine am_Met.of (lv := [some (.ref x0), some (.int x1), some (.int x2)]) (am_cc rfl (am_cc rfl (am_cc rfl am_c0))) (Nat.le_of_ble_eq_true rfl) rfl (by decide) ?_
  unfold f_Rw_isDots
  refine aw_iload_n 2 (kk := ?_)
  refine aw_iconst 1 (v := 1) (kk := ?_)
  refine aw_icmp_ne 17 19 (kt := fun _ => ?_) (kf := fun _ => ?_)
  · refine aw_iload_n 2 (kk := ?_)
    refine aw_iconst 2 (v := 2) (kk := ?_)
    refine aw_icmp_ne 25 46 (kt := fun _ => ?_) (kf := fun _ => ?_)
    · refine aw_iconst 0 (v := 0) (kk := ?_)
      exact aw_zretPL (by decide)
    · refine aw_aload_n 0 (kk := ?_)
      refine aw_iload_n 1 (kk := ?_)
      refine aw_lB (kk := fun v1 => ?_)
      refine aw_bipush 46 (v := 46) (kk := ?_)
      refine aw_icmp_ne 17 46 (kt := fun _ => ?_) (kf := fun _ => ?_)
      · refine aw_iconst 0 (v := 0) (kk := ?_)
        exact aw_zretPL (by decide)
      · refine aw_aload_n 0 (kk := ?_)
        refine aw_iload_n 1 (kk := ?_)
        refine aw_iconst 1 (v := 1) (kk := ?_)
        refine aw_iadd (kk := ?_)
        refine aw_lB (kk := fun v2 => ?_)
        refine aw_bipush 46 (v := 46) (kk := ?_)
        refine aw_icmp_ne 7 46 (kt := fun _ => ?_) (kf := fun _ => ?_)
        · refine aw_iconst 0 (v := 0) (kk := ?_)
          exact aw_zretPL (by decide)
        · refine aw_iconst 1 (v := 1) (kk := ?_)
          refine aw_goto 4 47 (kk := ?_)
          exact aw_zretPL (by decide)
  · refine aw_aload_n 0 (kk := ?_)
    refine aw_iload_n 1 (kk := ?_)
    refine aw_lB (kk := fun v3 => ?_)
    refine aw_bipush 46 (v := 46) (kk := ?_)
    refine aw_icmp_ne 7 17 (kt := fun _ => ?_) (kf := fun _ => ?_)
    · refine aw_iconst 0 (v := 0) (kk := ?_)
      exact aw_zretPL (by decide)
    · refine aw_iconst 1 (v := 1) (kk := ?_)
      refine aw_goto 4 18 (kk := ?_)
      exact aw_zretPL (by decide)
def f_Rw_isName_l24 (σ : am_S) (F : Nat) (x0 : Nat) (x1 : Int32) (x2 : Int32)  : Nat → Int32 → Option (Int32)
  | 0, _ => none
  | n + 1, x3 =>
    if (x1 + x2) ≤ x3 then
      some 1
    else
      (am_lI σ .byte x0 x3).bind fun v2 =>
      if v2 < 33 then
        some 0
      else
        (am_lI σ .byte x0 x3).bind fun v3 =>
        if v3 ≤ 126 then
          f_Rw_isName_l24 σ F x0 x1 x2 n (x3 + 1)
        else
          some 0
theorem b_Rw_isName_l24 {g : am_G} {σ0 σ : am_S} (F : Nat) (x0 : Nat) (x1 : Int32) (x2 : Int32)   : ∀ (n : Nat) (x3 : Int32), am_W g mx_Rw_isName σ0 24 [some (.ref x0), some (.int x1), some (.int x2), some (.int x3)] [] σ (f_Rw_isName_l24 σ F x0 x1 x2 n x3) (am_kPI σ) := by
  intro n
  induction n with
  | zero =>
    intro x3
    rw [f_Rw_isName_l24]
    exact am_W.none
  | succ n ih =>
    intro x3
    rw [f_Rw_isName_l24]
    refine aw_iload_n 3 (kk := ?_)
    refine aw_iload_n 1 (kk := ?_)
    refine aw_iload_n 2 (kk := ?_)
    refine aw_iadd (kk := ?_)
    refine aw_icmp_ge 27 55 (kt := fun _ => ?_) (kf := fun _ => ?_)
    · refine aw_iconst 1 (v := 1) (kk := ?_)
      exact aw_zretPL (by decide)
    · refine aw_aload_n 0 (kk := ?_)
      refine aw_iload_n 3 (kk := ?_)
      refine aw_lB (kk := fun v2 => ?_)
      refine aw_bipush 33 (v := 33) (kk := ?_)
      refine aw_icmp_lt 11 47 (kt := fun _ => ?_) (kf := fun _ => ?_)
      · refine aw_iconst 0 (v := 0) (kk := ?_)
        exact aw_zretPL (by decide)
      · refine aw_aload_n 0 (kk := ?_)
        refine aw_iload_n 3 (kk := ?_)
        refine aw_lB (kk := fun v3 => ?_)
        refine aw_bipush 126 (v := 126) (kk := ?_)
        refine aw_icmp_le 5 49 (kt := fun _ => ?_) (kf := fun _ => ?_)
        · refine aw_iinc 3 1 (v := 1) (kk := ?_)
          refine aw_goto (-28) 24 (kk := ?_)
          exact am_W.drop [true, true, true, true] (ih (x3 + 1))
        · refine aw_iconst 0 (v := 0) (kk := ?_)
          exact aw_zretPL (by decide)
def f_Rw_isName (F : Nat) (σ : am_S) (x0 : Nat) (x1 : Int32) (x2 : Int32) : Option (Int32) :=
  if x2 < 1 then
    some 0
  else
    if 100 < x2 then
      some 0
    else
      (f_Rw_isDots F σ x0 x1 x2).bind fun v1 =>
      if v1 = 0 then
        f_Rw_isName_l24 σ F x0 x1 x2 F x1
      else
        some 0
theorem m_Rw_isName (g : am_G) (F : Nat) (σ : am_S) (x0 : Nat) (x1 : Int32) (x2 : Int32) : am_Met g mx_Rw_isName [.ref x0, .int x1, .int x2] σ ((f_Rw_isName F σ x0 x1 x2).bind (am_kPI σ)) := by
  refine am_Met.of (lv := [some (.ref x0), some (.int x1), some (.int x2), none]) (am_cc rfl (am_cc rfl (am_cc rfl am_c0))) (Nat.le_of_ble_eq_true rfl) rfl (by decide) ?_
  unfold f_Rw_isName
  refine aw_iload_n 2 (kk := ?_)
  refine aw_iconst 1 (v := 1) (kk := ?_)
  refine aw_icmp_lt 18 20 (kt := fun _ => ?_) (kf := fun _ => ?_)
  · refine aw_iconst 0 (v := 0) (kk := ?_)
    exact aw_zretPL (by decide)
  · refine aw_iload_n 2 (kk := ?_)
    refine aw_bipush 100 (v := 100) (kk := ?_)
    refine aw_icmp_gt 12 20 (kt := fun _ => ?_) (kf := fun _ => ?_)
    · refine aw_iconst 0 (v := 0) (kk := ?_)
      exact aw_zretPL (by decide)
    · refine aw_aload_n 0 (kk := ?_)
      refine aw_iload_n 1 (kk := ?_)
      refine aw_iload_n 2 (kk := ?_)
      refine ac_PI (st := []) [.ref x0, .int x1, .int x2] (ag_S 15 wd_538 cal_Rw_isDots wd_539) cal_Rw_isDots ⟨by decide, by decide⟩ (Nat.le_of_ble_eq_true rfl) (m_Rw_isDots g F σ x0 x1 x2) (fun v1 => ?_)
      refine aw_if_eq 5 22 (kt := fun _ => ?_) (kf := fun _ => ?_)
      · refine aw_iload_n 1 (kk := ?_)
        refine aw_istore_n 3 (kk := ?_)
        exact am_W.drop [true, true, true, true] (b_Rw_isName_l24 F x0 x1 x2 F x1)
      · refine aw_iconst 0 (v := 0) (kk := ?_)
        exact aw_zretPL (by decide)
def f_Rw_isPath_j50 (σ : am_S) (F : Nat) (x0 : Nat) (x3 : Int32) (x4 : Int32) (x6 : Int32) (k27 : Int32 → Int32 → Int32 → Option (Int32)) : Option (Int32) :=
  (f_Rw_isName F σ x0 x4 (x6 - x4)).bind fun v1 =>
  if v1 = 0 then
    some 0
  else
    k27 (x3 + 1) (x6 + 1) (x6 + 1)
theorem b_Rw_isPath_j50 {g : am_G} {σ0 σ : am_S} (F : Nat) (x0 : Nat) (x3 : Int32) (x4 : Int32) (x5 : Int32) (x6 : Int32) (k27 : Int32 → Int32 → Int32 → Option (Int32)) (h27 : ∀ (y3 : Int32) (y4 : Int32) (y6 : Int32), am_W g mx_Rw_isPath σ0 27 [some (.ref x0), none, none, some (.int y3), some (.int y4), some (.int x5), some (.int y6)] [] σ (k27 y3 y4 y6) (am_kPI σ)) : am_W g mx_Rw_isPath σ0 50 [some (.ref x0), none, none, some (.int x3), some (.int x4), some (.int x5), some (.int x6)] [] σ (f_Rw_isPath_j50 σ F x0 x3 x4 x6 k27) (am_kPI σ) := by
  unfold f_Rw_isPath_j50
  refine aw_aload_n 0 (kk := ?_)
  refine aw_iload 4 (kk := ?_)
  refine aw_iload 6 (kk := ?_)
  refine aw_iload 4 (kk := ?_)
  refine aw_isub (kk := ?_)
  refine ac_PI (st := []) [.ref x0, .int x4, .int (x6 - x4)] (ag_S 9 wd_535 cal_Rw_isName wd_536) cal_Rw_isName ⟨by decide, by decide⟩ (Nat.le_of_ble_eq_true rfl) (m_Rw_isName g F σ x0 x4 (x6 - x4)) (fun v1 => ?_)
  refine aw_if_ne 5 66 (kt := fun _ => ?_) (kf := fun _ => ?_)
  · refine aw_iinc 3 1 (v := 1) (kk := ?_)
    refine aw_iload 6 (kk := ?_)
    refine aw_iconst 1 (v := 1) (kk := ?_)
    refine aw_iadd (kk := ?_)
    refine aw_istore 4 (kk := ?_)
    refine aw_iinc 6 1 (v := 1) (kk := ?_)
    refine aw_goto (-51) 27 (kk := ?_)
    exact am_W.drop [true, false, false, true, true, true, true] (h27 (x3 + 1) (x6 + 1) (x6 + 1))
  · refine aw_iconst 0 (v := 0) (kk := ?_)
    exact aw_zretPL (by decide)
def f_Rw_isPath_l27 (σ : am_S) (F : Nat) (x0 : Nat) (x5 : Int32) (k81 : Int32 → Option (Int32)) : Nat → Int32 → Int32 → Int32 → Option (Int32)
  | 0, _, _, _ => none
  | n + 1, x3, x4, x6 =>
    if x5 < x6 then
      k81 x3
    else
      if x6 = x5 then
        f_Rw_isPath_j50 σ F x0 x3 x4 x6 (fun y3 y4 y6 => f_Rw_isPath_l27 σ F x0 x5 k81 n y3 y4 y6)
      else
        (am_lI σ .byte x0 x6).bind fun v2 =>
        if v2 = 47 then
          f_Rw_isPath_j50 σ F x0 x3 x4 x6 (fun y3 y4 y6 => f_Rw_isPath_l27 σ F x0 x5 k81 n y3 y4 y6)
        else
          f_Rw_isPath_l27 σ F x0 x5 k81 n x3 x4 (x6 + 1)
theorem b_Rw_isPath_l27 {g : am_G} {σ0 σ : am_S} (F : Nat) (x0 : Nat) (x5 : Int32) (k81 : Int32 → Option (Int32)) (h81 : ∀ (y3 : Int32), am_W g mx_Rw_isPath σ0 81 [none, none, none, some (.int y3), none, none, none] [] σ (k81 y3) (am_kPI σ)) : ∀ (n : Nat) (x3 : Int32) (x4 : Int32) (x6 : Int32), am_W g mx_Rw_isPath σ0 27 [some (.ref x0), none, none, some (.int x3), some (.int x4), some (.int x5), some (.int x6)] [] σ (f_Rw_isPath_l27 σ F x0 x5 k81 n x3 x4 x6) (am_kPI σ) := by
  intro n
  induction n with
  | zero =>
    intro x3 x4 x6
    rw [f_Rw_isPath_l27]
    exact am_W.none
  | succ n ih =>
    intro x3 x4 x6
    rw [f_Rw_isPath_l27]
    refine aw_iload 6 (kk := ?_)
    refine aw_iload 5 (kk := ?_)
    refine aw_icmp_gt 50 81 (kt := fun _ => ?_) (kf := fun _ => ?_)
    · exact am_W.drop [false, false, false, true, false, false, false] (h81 x3)
    · refine aw_iload 6 (kk := ?_)
      refine aw_iload 5 (kk := ?_)
      refine aw_icmp_eq 12 50 (kt := fun _ => ?_) (kf := fun _ => ?_)
      · exact am_W.drop [true, false, false, true, true, true, true] (b_Rw_isPath_j50 F x0 x3 x4 x5 x6 (fun y3 y4 y6 => f_Rw_isPath_l27 σ F x0 x5 k81 n y3 y4 y6) (fun y3 y4 y6 => am_W.drop [true, false, false, true, true, true, true] (ih y3 y4 y6)))
      · refine aw_aload_n 0 (kk := ?_)
        refine aw_iload 6 (kk := ?_)
        refine aw_lB (kk := fun v2 => ?_)
        refine aw_bipush 47 (v := 47) (kk := ?_)
        refine aw_icmp_ne 28 75 (kt := fun _ => ?_) (kf := fun _ => ?_)
        · refine aw_iinc 6 1 (v := 1) (kk := ?_)
          refine aw_goto (-51) 27 (kk := ?_)
          exact am_W.drop [true, false, false, true, true, true, true] (ih x3 x4 (x6 + 1))
        · exact am_W.drop [true, false, false, true, true, true, true] (b_Rw_isPath_j50 F x0 x3 x4 x5 x6 (fun y3 y4 y6 => f_Rw_isPath_l27 σ F x0 x5 k81 n y3 y4 y6) (fun y3 y4 y6 => am_W.drop [true, false, false, true, true, true, true] (ih y3 y4 y6)))
def f_Rw_isPath_j81 (σ : am_S) (F : Nat) (x3 : Int32)  : Option (Int32) :=
  if 20 < x3 then
    some 0
  else
    some 1
theorem b_Rw_isPath_j81 {g : am_G} {σ0 σ : am_S} (F : Nat) (x3 : Int32)   : am_W g mx_Rw_isPath σ0 81 [none, none, none, some (.int x3), none, none, none] [] σ (f_Rw_isPath_j81 σ F x3) (am_kPI σ) := by
  unfold f_Rw_isPath_j81
  refine aw_iload_n 3 (kk := ?_)
  refine aw_bipush 20 (v := 20) (kk := ?_)
  refine aw_icmp_gt 7 91 (kt := fun _ => ?_) (kf := fun _ => ?_)
  · refine aw_iconst 0 (v := 0) (kk := ?_)
    exact aw_zretPL (by decide)
  · refine aw_iconst 1 (v := 1) (kk := ?_)
    refine aw_goto 4 92 (kk := ?_)
    exact aw_zretPL (by decide)
def f_Rw_isPath (F : Nat) (σ : am_S) (x0 : Nat) (x1 : Int32) (x2 : Int32) : Option (Int32) :=
  if x2 < 1 then
    some 0
  else
    if x2 ≤ 255 then
      f_Rw_isPath_l27 σ F x0 (x1 + x2) (fun y3 => f_Rw_isPath_j81 σ F y3) F 0 x1 x1
    else
      some 0
theorem m_Rw_isPath (g : am_G) (F : Nat) (σ : am_S) (x0 : Nat) (x1 : Int32) (x2 : Int32) : am_Met g mx_Rw_isPath [.ref x0, .int x1, .int x2] σ ((f_Rw_isPath F σ x0 x1 x2).bind (am_kPI σ)) := by
  refine am_Met.of (lv := [some (.ref x0), some (.int x1), some (.int x2), none, none, none, none]) (am_cc rfl (am_cc rfl (am_cc rfl am_c0))) (Nat.le_of_ble_eq_true rfl) rfl (by decide) ?_
  unfold f_Rw_isPath
  refine aw_iload_n 2 (kk := ?_)
  refine aw_iconst 1 (v := 1) (kk := ?_)
  refine aw_icmp_lt 10 12 (kt := fun _ => ?_) (kf := fun _ => ?_)
  · refine aw_iconst 0 (v := 0) (kk := ?_)
    exact aw_zretPL (by decide)
  · refine aw_iload_n 2 (kk := ?_)
    refine aw_sipush 255 (v := 255) (kk := ?_)
    refine aw_icmp_le 5 14 (kt := fun _ => ?_) (kf := fun _ => ?_)
    · refine aw_iconst 0 (v := 0) (kk := ?_)
      refine aw_istore_n 3 (kk := ?_)
      refine aw_iload_n 1 (kk := ?_)
      refine aw_istore 4 (kk := ?_)
      refine aw_iload_n 1 (kk := ?_)
      refine aw_iload_n 2 (kk := ?_)
      refine aw_iadd (kk := ?_)
      refine aw_istore 5 (kk := ?_)
      refine aw_iload_n 1 (kk := ?_)
      refine aw_istore 6 (kk := ?_)
      exact am_W.drop [true, false, false, true, true, true, true] (b_Rw_isPath_l27 F x0 (x1 + x2) (fun y3 => f_Rw_isPath_j81 σ F y3) (fun y3 => am_W.drop [false, false, false, true, false, false, false] (b_Rw_isPath_j81 F y3)) F 0 x1 x1)
    · refine aw_iconst 0 (v := 0) (kk := ?_)
      exact aw_zretPL (by decide)
def f_Rw_commonBeginning_l3 (σ : am_S) (F : Nat) (x0 : Nat) (x1 : Int32) (x2 : Nat) (x3 : Int32) (x4 : Int32)  : Nat → Int32 → Option (Int32)
  | 0, _ => none
  | n + 1, x5 =>
    if x4 ≤ x5 then
      some x4
    else
      (am_lI σ .byte x0 (x1 + x5)).bind fun v1 =>
      (am_lI σ .byte x2 (x3 + x5)).bind fun v2 =>
      if v1 = v2 then
        f_Rw_commonBeginning_l3 σ F x0 x1 x2 x3 x4 n (x5 + 1)
      else
        some x5
theorem b_Rw_commonBeginning_l3 {g : am_G} {σ0 σ : am_S} (F : Nat) (x0 : Nat) (x1 : Int32) (x2 : Nat) (x3 : Int32) (x4 : Int32)   : ∀ (n : Nat) (x5 : Int32), am_W g mx_Rw_commonBeginning σ0 3 [some (.ref x0), some (.int x1), some (.ref x2), some (.int x3), some (.int x4), some (.int x5)] [] σ (f_Rw_commonBeginning_l3 σ F x0 x1 x2 x3 x4 n x5) (am_kPI σ) := by
  intro n
  induction n with
  | zero =>
    intro x5
    rw [f_Rw_commonBeginning_l3]
    exact am_W.none
  | succ n ih =>
    intro x5
    rw [f_Rw_commonBeginning_l3]
    refine aw_iload 5 (kk := ?_)
    refine aw_iload 4 (kk := ?_)
    refine aw_icmp_ge 27 34 (kt := fun _ => ?_) (kf := fun _ => ?_)
    · refine aw_iload 4 (kk := ?_)
      exact aw_iretP
    · refine aw_aload_n 0 (kk := ?_)
      refine aw_iload_n 1 (kk := ?_)
      refine aw_iload 5 (kk := ?_)
      refine aw_iadd (kk := ?_)
      refine aw_lB (kk := fun v1 => ?_)
      refine aw_aload_n 2 (kk := ?_)
      refine aw_iload_n 3 (kk := ?_)
      refine aw_iload 5 (kk := ?_)
      refine aw_iadd (kk := ?_)
      refine aw_lB (kk := fun v2 => ?_)
      refine aw_icmp_eq 6 28 (kt := fun _ => ?_) (kf := fun _ => ?_)
      · refine aw_iinc 5 1 (v := 1) (kk := ?_)
        refine aw_goto (-28) 3 (kk := ?_)
        exact am_W.drop [true, true, true, true, true, true] (ih (x5 + 1))
      · refine aw_iload 5 (kk := ?_)
        exact aw_iretP
def f_Rw_commonBeginning (F : Nat) (σ : am_S) (x0 : Nat) (x1 : Int32) (x2 : Nat) (x3 : Int32) (x4 : Int32) : Option (Int32) :=
  f_Rw_commonBeginning_l3 σ F x0 x1 x2 x3 x4 F 0
theorem m_Rw_commonBeginning (g : am_G) (F : Nat) (σ : am_S) (x0 : Nat) (x1 : Int32) (x2 : Nat) (x3 : Int32) (x4 : Int32) : am_Met g mx_Rw_commonBeginning [.ref x0, .int x1, .ref x2, .int x3, .int x4] σ ((f_Rw_commonBeginning F σ x0 x1 x2 x3 x4).bind (am_kPI σ)) := by
  refine am_Met.of (lv := [some (.ref x0), some (.int x1), some (.ref x2), some (.int x3), some (.int x4), none]) (am_cc rfl (am_cc rfl (am_cc rfl (am_cc rfl (am_cc rfl am_c0))))) (Nat.le_of_ble_eq_true rfl) rfl (by decide) ?_
  unfold f_Rw_commonBeginning
  refine aw_iconst 0 (v := 0) (kk := ?_)
  refine aw_istore 5 (kk := ?_)
  exact am_W.drop [true, true, true, true, true, true] (b_Rw_commonBeginning_l3 F x0 x1 x2 x3 x4 F 0)
def f_In_takeArguments (F : Nat) (σ : am_S) (x0 : Nat) : Option (am_S) :=
  am_ck σ 1 x0 (
  (am_gI σ 1 2 x0).bind fun v1 =>
  (f_In_argumentStart F σ x0 v1).bind fun v2 =>
  (f_In_removeFront F σ x0 v2).bind fun σ3 =>
  (am_pI σ3 1 2 x0 0).bind fun σ4 =>
  some σ4)
theorem rc_In_takeArguments {F : Nat} {σ : am_S} {x0 : Nat} (h : (f_In_takeArguments F σ x0).isSome = true) : ∃ fs, σ.2.2 x0 = some (.inr (1, fs)) := am_ck_some h
theorem m_In_takeArguments (g : am_G) (F : Nat) (σ : am_S) (x0 : Nat) : am_Met g mx_In_takeArguments [.ref x0] σ ((f_In_takeArguments F σ x0).bind am_kV) := by
  refine am_Met.of (lv := [some (.ref x0)]) (am_cc rfl am_c0) (Nat.le_of_ble_eq_true rfl) rfl (by decide) ?_
  unfold f_In_takeArguments
  refine am_W.ck ?_
  refine aw_aload_n 0 (kk := ?_)
  refine aw_aload_n 0 (kk := ?_)
  refine aw_aload_n 0 (kk := ?_)
  refine aw_gI 1 2 19 (hw := wd_43) (kk := fun v1 => ?_)
  refine ac_PI (st := [.ref x0]) [.ref x0, .int v1] (ag_V 23 1 rc_In_argumentStart wd_376 cal_In_argumentStart wd_377 wd_378) cal_In_argumentStart ⟨by decide, by decide⟩ (Nat.le_of_ble_eq_true rfl) (m_In_argumentStart g F σ x0 v1) (fun v2 => ?_)
  refine ac_V (st := []) [.ref x0, .int v2] (ag_V 33 1 rc_In_removeFront wd_499 cal_In_removeFront wd_501 ws_2) cal_In_removeFront ⟨by decide, by decide⟩ (Nat.le_of_ble_eq_true rfl) (m_In_removeFront g F σ x0 v2) (fun σ3 => ?_)
  refine aw_aload_n 0 (kk := ?_)
  refine aw_iconst 0 (v := 0) (kk := ?_)
  refine aw_pI 1 2 19 (hw := wd_43) (kk := fun σ4 => ?_)
  exact aw_vret
