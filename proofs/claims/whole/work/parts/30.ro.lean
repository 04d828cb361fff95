/-! ===== printed by wip/gen ===== -/
def f_Ro_get (F : Nat) (σ : am_S) (x0 : Nat) (x1 : Int32) : Option (Int32) :=
  am_ck σ 12 x0 (
  (am_gA σ 12 0 x0).bind fun v1 =>
  (am_lI σ .byte v1 x1).bind fun v2 =>
  some (v2 &&& 255))
theorem rc_Ro_get {F : Nat} {σ : am_S} {x0 : Nat} {x1 : Int32} (h : (f_Ro_get F σ x0 x1).isSome = true) : ∃ fs, σ.2.2 x0 = some (.inr (12, fs)) := am_ck_some h
theorem m_Ro_get (g : am_G) (F : Nat) (σ : am_S) (x0 : Nat) (x1 : Int32) : am_Met g mx_Ro_get [.ref x0, .int x1] σ ((f_Ro_get F σ x0 x1).bind (am_kPI σ)) := by
  refine am_Met.of (lv := [some (.ref x0), some (.int x1)]) (am_cc rfl (am_cc rfl am_c0)) (Nat.le_of_ble_eq_true rfl) rfl (by decide) ?_
  unfold f_Ro_get
  refine am_W.ck ?_
  refine aw_aload_n 0 (kk := ?_)
  refine aw_gA 12 0 7 (hw := wd_1113) (kk := fun v1 => ?_)
  refine aw_iload_n 1 (kk := ?_)
  refine aw_lB (kk := fun v2 => ?_)
  refine aw_sipush 255 (v := 255) (kk := ?_)
  refine aw_iand (kk := ?_)
  exact aw_iretP
def f_Ro_adda_j51 (F : Nat) (x0 : Nat) (x1 : Int32)  (σ : am_S) : Option (Nat × am_S) :=
  (am_gA σ 12 0 x0).bind fun v4 =>
  (am_gI σ 12 1 x0).bind fun v5 =>
  (am_sB σ v4 v5 (am_i2b x1)).bind fun σ6 =>
  (am_gI σ6 12 1 x0).bind fun v7 =>
  (am_pI σ6 12 1 x0 (v7 + 1)).bind fun σ8 =>
  some (x0, σ8)
theorem b_Ro_adda_j51 {g : am_G} {σ0 : am_S} (F : Nat) (x0 : Nat) (x1 : Int32)   (σ : am_S) : am_W g mx_Ro_adda σ0 51 [some (.ref x0), some (.int x1), none, none] [] σ (f_Ro_adda_j51 F x0 x1 σ) am_kA := by
  unfold f_Ro_adda_j51
  refine aw_aload_n 0 (kk := ?_)
  refine aw_gA 12 0 7 (hw := wd_1113) (kk := fun v4 => ?_)
  refine aw_aload_n 0 (kk := ?_)
  refine aw_gI 12 1 13 (hw := wd_1115) (kk := fun v5 => ?_)
  refine aw_iload_n 1 (kk := ?_)
  refine aw_i2b (kk := ?_)
  refine aw_sB (kk := fun σ6 => ?_)
  refine aw_aload_n 0 (kk := ?_)
  refine aw_dup (kk := ?_)
  refine aw_gI 12 1 13 (hw := wd_1115) (kk := fun v7 => ?_)
  refine aw_iconst 1 (v := 1) (kk := ?_)
  refine aw_iadd (kk := ?_)
  refine aw_pI 12 1 13 (hw := wd_1115) (kk := fun σ8 => ?_)
  refine aw_aload_n 0 (kk := ?_)
  exact aw_aret
def f_Ro_adda_l23 (F : Nat) (x0 : Nat) (x2 : Nat) (k46 : am_S → Option (Nat × am_S)) : Nat → Int32 → am_S → Option (Nat × am_S)
  | 0, _, _ => none
  | n + 1, x3, σ =>
    (am_gI σ 12 1 x0).bind fun v12 =>
    if v12 ≤ x3 then
      k46 σ
    else
      (am_gA σ 12 0 x0).bind fun v13 =>
      (am_lI σ .byte v13 x3).bind fun v14 =>
      (am_sB σ x2 x3 v14).bind fun σ15 =>
      f_Ro_adda_l23 F x0 x2 k46 n (x3 + 1) σ15
theorem b_Ro_adda_l23 {g : am_G} {σ0 : am_S} (F : Nat) (x0 : Nat) (x1 : Int32) (x2 : Nat) (k46 : am_S → Option (Nat × am_S)) (h46 : ∀ (τ : am_S), am_W g mx_Ro_adda σ0 46 [some (.ref x0), some (.int x1), some (.ref x2), none] [] τ (k46 τ) am_kA) : ∀ (n : Nat) (x3 : Int32) (σ : am_S), am_W g mx_Ro_adda σ0 23 [some (.ref x0), some (.int x1), some (.ref x2), some (.int x3)] [] σ (f_Ro_adda_l23 F x0 x2 k46 n x3 σ) am_kA := by
  intro n
  induction n with
  | zero =>
    intro x3 σ
    rw [f_Ro_adda_l23]
    exact am_W.none
  | succ n ih =>
    intro x3 σ
    rw [f_Ro_adda_l23]
    refine aw_iload_n 3 (kk := ?_)
    refine aw_aload_n 0 (kk := ?_)
    refine aw_gI 12 1 13 (hw := wd_1115) (kk := fun v12 => ?_)
    refine aw_icmp_ge 18 46 (kt := fun _ => ?_) (kf := fun _ => ?_)
    · exact am_W.drop [true, true, true, false] (h46 σ)
    · refine aw_aload_n 2 (kk := ?_)
      refine aw_iload_n 3 (kk := ?_)
      refine aw_aload_n 0 (kk := ?_)
      refine aw_gA 12 0 7 (hw := wd_1113) (kk := fun v13 => ?_)
      refine aw_iload_n 3 (kk := ?_)
      refine aw_lB (kk := fun v14 => ?_)
      refine aw_sB (kk := fun σ15 => ?_)
      refine aw_iinc 3 1 (v := 1) (kk := ?_)
      refine aw_goto (-20) 23 (kk := ?_)
      exact am_W.drop [true, true, true, true] (ih (x3 + 1) σ15)
def f_Ro_adda_j46 (F : Nat) (x0 : Nat) (x1 : Int32) (x2 : Nat)  (σ : am_S) : Option (Nat × am_S) :=
  (am_pA σ 12 0 x0 x2).bind fun σ16 =>
  f_Ro_adda_j51 F x0 x1 σ16
theorem b_Ro_adda_j46 {g : am_G} {σ0 : am_S} (F : Nat) (x0 : Nat) (x1 : Int32) (x2 : Nat)   (σ : am_S) : am_W g mx_Ro_adda σ0 46 [some (.ref x0), some (.int x1), some (.ref x2), none] [] σ (f_Ro_adda_j46 F x0 x1 x2 σ) am_kA := by
  unfold f_Ro_adda_j46
  refine aw_aload_n 0 (kk := ?_)
  refine aw_aload_n 2 (kk := ?_)
  refine aw_pA 12 0 7 (hw := wd_1113) (kk := fun σ16 => ?_)
  exact am_W.drop [true, true, false, false] (b_Ro_adda_j51 F x0 x1 σ16)
def f_Ro_adda (F : Nat) (σ : am_S) (x0 : Nat) (x1 : Int32) : Option (Nat × am_S) :=
  am_ck σ 12 x0 (
  (am_gI σ 12 1 x0).bind fun v1 =>
  (am_gA σ 12 0 x0).bind fun v2 =>
  (am_len σ v2).bind fun v3 =>
  if v1 = v3 then
    (am_gI σ 12 1 x0).bind fun v9 =>
    am_b2 (am_na σ .byte (2 * v9)) fun a10 σ11 =>
    f_Ro_adda_l23 F x0 a10 (fun τ => f_Ro_adda_j46 F x0 x1 a10 τ) F 0 σ11
  else
    f_Ro_adda_j51 F x0 x1 σ)
theorem rc_Ro_adda {F : Nat} {σ : am_S} {x0 : Nat} {x1 : Int32} (h : (f_Ro_adda F σ x0 x1).isSome = true) : ∃ fs, σ.2.2 x0 = some (.inr (12, fs)) := am_ck_some h
theorem m_Ro_adda (g : am_G) (F : Nat) (σ : am_S) (x0 : Nat) (x1 : Int32) : am_Met g mx_Ro_adda [.ref x0, .int x1] σ ((f_Ro_adda F σ x0 x1).bind am_kA) := by
  refine am_Met.of (lv := [some (.ref x0), some (.int x1), none, none]) (am_cc rfl (am_cc rfl am_c0)) (Nat.le_of_ble_eq_true rfl) rfl (by decide) ?_
  unfold f_Ro_adda
  refine am_W.ck ?_
  refine aw_aload_n 0 (kk := ?_)
  refine aw_gI 12 1 13 (hw := wd_1115) (kk := fun v1 => ?_)
  refine aw_aload_n 0 (kk := ?_)
  refine aw_gA 12 0 7 (hw := wd_1113) (kk := fun v2 => ?_)
  refine aw_len (kk := fun v3 => ?_)
  refine aw_icmp_ne 42 51 (kt := fun _ => ?_) (kf := fun _ => ?_)
  · exact am_W.drop [true, true, false, false] (b_Ro_adda_j51 F x0 x1 σ)
  · refine aw_iconst 2 (v := 2) (kk := ?_)
    refine aw_aload_n 0 (kk := ?_)
    refine aw_gI 12 1 13 (hw := wd_1115) (kk := fun v9 => ?_)
    refine aw_imul (kk := ?_)
    refine aw_na2 .byte (hw := wd_54) (kk := fun a10 σ11 => ?_)
    refine aw_astore_n 2 (kk := ?_)
    refine aw_iconst 0 (v := 0) (kk := ?_)
    refine aw_istore_n 3 (kk := ?_)
    exact am_W.drop [true, true, true, true] (b_Ro_adda_l23 F x0 x1 a10 (fun τ => f_Ro_adda_j46 F x0 x1 a10 τ) (fun τ => am_W.drop [true, true, true, false] (b_Ro_adda_j46 F x0 x1 a10 τ)) F 0 σ11)
def f_Ro_addb_l3 (F : Nat) (x0 : Nat) (x1 : Nat) (x3 : Int32)  : Nat → Int32 → am_S → Option (Nat × am_S)
  | 0, _, _ => none
  | n + 1, x4, σ =>
    if x3 ≤ x4 then
      some (x0, σ)
    else
      (am_gA σ 12 0 x1).bind fun v1 =>
      (am_lI σ .byte v1 x4).bind fun v2 =>
      am_b2 (f_Ro_adda F σ x0 v2) fun v3 σ4 =>
      f_Ro_addb_l3 F x0 x1 x3 n (x4 + 1) σ4
theorem b_Ro_addb_l3 {g : am_G} {σ0 : am_S} (F : Nat) (x0 : Nat) (x1 : Nat) (x3 : Int32)   : ∀ (n : Nat) (x4 : Int32) (σ : am_S), am_W g mx_Ro_addb σ0 3 [some (.ref x0), some (.ref x1), none, some (.int x3), some (.int x4)] [] σ (f_Ro_addb_l3 F x0 x1 x3 n x4 σ) am_kA := by
  intro n
  induction n with
  | zero =>
    intro x4 σ
    rw [f_Ro_addb_l3]
    exact am_W.none
  | succ n ih =>
    intro x4 σ
    rw [f_Ro_addb_l3]
    refine aw_iload 4 (kk := ?_)
    refine aw_iload_n 3 (kk := ?_)
    refine aw_icmp_ge 21 27 (kt := fun _ => ?_) (kf := fun _ => ?_)
    · refine aw_aload_n 0 (kk := ?_)
      exact aw_aret
    · refine aw_aload_n 0 (kk := ?_)
      refine aw_aload_n 1 (kk := ?_)
      refine aw_gA 12 0 7 (hw := wd_1113) (kk := fun v1 => ?_)
      refine aw_iload 4 (kk := ?_)
      refine aw_lB (kk := fun v2 => ?_)
      refine ac_A (st := []) [.ref x0, .int v2] (ag_V 17 12 rc_Ro_adda wd_1299 cal_Ro_adda wd_1300 wd_1301) cal_Ro_adda ⟨by decide, by decide⟩ (Nat.le_of_ble_eq_true rfl) (m_Ro_adda g F σ x0 v2) (fun v3 σ4 => ?_)
      refine aw_pop (kk := ?_)
      refine aw_iinc 4 1 (v := 1) (kk := ?_)
      refine aw_goto (-21) 3 (kk := ?_)
      exact am_W.drop [true, true, false, true, true] (ih (x4 + 1) σ4)
def f_Ro_addb (F : Nat) (σ : am_S) (x0 : Nat) (x1 : Nat) (x2 : Int32) (x3 : Int32) : Option (Nat × am_S) :=
  am_ck σ 12 x0 (
  f_Ro_addb_l3 F x0 x1 x3 F x2 σ)
theorem rc_Ro_addb {F : Nat} {σ : am_S} {x0 : Nat} {x1 : Nat} {x2 : Int32} {x3 : Int32} (h : (f_Ro_addb F σ x0 x1 x2 x3).isSome = true) : ∃ fs, σ.2.2 x0 = some (.inr (12, fs)) := am_ck_some h
theorem m_Ro_addb (g : am_G) (F : Nat) (σ : am_S) (x0 : Nat) (x1 : Nat) (x2 : Int32) (x3 : Int32) : am_Met g mx_Ro_addb [.ref x0, .ref x1, .int x2, .int x3] σ ((f_Ro_addb F σ x0 x1 x2 x3).bind am_kA) := by
  refine am_Met.of (lv := [some (.ref x0), some (.ref x1), some (.int x2), some (.int x3), none]) (am_cc rfl (am_cc rfl (am_cc rfl (am_cc rfl am_c0)))) (Nat.le_of_ble_eq_true rfl) rfl (by decide) ?_
  unfold f_Ro_addb
  refine am_W.ck ?_
  refine aw_iload_n 2 (kk := ?_)
  refine aw_istore 4 (kk := ?_)
  exact am_W.drop [true, true, false, true, true] (b_Ro_addb_l3 F x0 x1 x3 F x2 σ)
def f_Ro_addd_l2 (F : Nat) (x0 : Nat) (x1 : Nat)  : Nat → Int32 → am_S → Option (Nat × am_S)
  | 0, _, _ => none
  | n + 1, x2, σ =>
    (f_St_length σ x1).bind fun v1 =>
    if v1 ≤ x2 then
      some (x0, σ)
    else
      (f_St_charAt σ x1 x2).bind fun v2 =>
      am_b2 (f_Ro_adda F σ x0 v2) fun v3 σ4 =>
      f_Ro_addd_l2 F x0 x1 n (x2 + 1) σ4
theorem b_Ro_addd_l2 {g : am_G} {σ0 : am_S} (F : Nat) (x0 : Nat) (x1 : Nat)   : ∀ (n : Nat) (x2 : Int32) (σ : am_S), am_W g mx_Ro_addd σ0 2 [some (.ref x0), some (.ref x1), some (.int x2)] [] σ (f_Ro_addd_l2 F x0 x1 n x2 σ) am_kA := by
  intro n
  induction n with
  | zero =>
    intro x2 σ
    rw [f_Ro_addd_l2]
    exact am_W.none
  | succ n ih =>
    intro x2 σ
    rw [f_Ro_addd_l2]
    refine aw_iload_n 2 (kk := ?_)
    refine aw_aload_n 1 (kk := ?_)
    refine ac_PI [.ref x1] (ag_St_length 30 (hw := wd_1493)) cal_St_length ⟨by decide, by decide⟩ (Nat.le_of_ble_eq_true rfl) (m_St_length _ _ x1) (fun v1 => ?_)
    refine aw_icmp_ge 19 26 (kt := fun _ => ?_) (kf := fun _ => ?_)
    · refine aw_aload_n 0 (kk := ?_)
      exact aw_aret
    · refine aw_aload_n 0 (kk := ?_)
      refine aw_aload_n 1 (kk := ?_)
      refine aw_iload_n 2 (kk := ?_)
      refine ac_PI [.ref x1, .int x2] (ag_St_charAt 36 (hw := wd_1494)) cal_St_charAt ⟨by decide, by decide⟩ (Nat.le_of_ble_eq_true rfl) (m_St_charAt _ _ x1 x2) (fun v2 => ?_)
      refine ac_A (st := []) [.ref x0, .int v2] (ag_V 17 12 rc_Ro_adda wd_1299 cal_Ro_adda wd_1300 wd_1301) cal_Ro_adda ⟨by decide, by decide⟩ (Nat.le_of_ble_eq_true rfl) (m_Ro_adda g F σ x0 v2) (fun v3 σ4 => ?_)
      refine aw_pop (kk := ?_)
      refine aw_iinc 2 1 (v := 1) (kk := ?_)
      refine aw_goto (-21) 2 (kk := ?_)
      exact am_W.drop [true, true, true] (ih (x2 + 1) σ4)
def f_Ro_addd (F : Nat) (σ : am_S) (x0 : Nat) (x1 : Nat) : Option (Nat × am_S) :=
  am_ck σ 12 x0 (
  f_Ro_addd_l2 F x0 x1 F 0 σ)
theorem rc_Ro_addd {F : Nat} {σ : am_S} {x0 : Nat} {x1 : Nat} (h : (f_Ro_addd F σ x0 x1).isSome = true) : ∃ fs, σ.2.2 x0 = some (.inr (12, fs)) := am_ck_some h
theorem m_Ro_addd (g : am_G) (F : Nat) (σ : am_S) (x0 : Nat) (x1 : Nat) : am_Met g mx_Ro_addd [.ref x0, .ref x1] σ ((f_Ro_addd F σ x0 x1).bind am_kA) := by
  refine am_Met.of (lv := [some (.ref x0), some (.ref x1), none]) (am_cc rfl (am_cc rfl am_c0)) (Nat.le_of_ble_eq_true rfl) rfl (by decide) ?_
  unfold f_Ro_addd
  refine am_W.ck ?_
  refine aw_iconst 0 (v := 0) (kk := ?_)
  refine aw_istore_n 2 (kk := ?_)
  exact am_W.drop [true, true, true] (b_Ro_addd_l2 F x0 x1 F 0 σ)
def f_Ro_clear (F : Nat) (σ : am_S) (x0 : Nat) : Option (am_S) :=
  am_ck σ 12 x0 (
  (am_pI σ 12 1 x0 0).bind fun σ1 =>
  some σ1)
theorem rc_Ro_clear {F : Nat} {σ : am_S} {x0 : Nat} (h : (f_Ro_clear F σ x0).isSome = true) : ∃ fs, σ.2.2 x0 = some (.inr (12, fs)) := am_ck_some h
theorem m_Ro_clear (g : am_G) (F : Nat) (σ : am_S) (x0 : Nat) : am_Met g mx_Ro_clear [.ref x0] σ ((f_Ro_clear F σ x0).bind am_kV) := by
  refine am_Met.of (lv := [some (.ref x0)]) (am_cc rfl am_c0) (Nat.le_of_ble_eq_true rfl) rfl (by decide) ?_
  unfold f_Ro_clear
  refine am_W.ck ?_
  refine aw_aload_n 0 (kk := ?_)
  refine aw_iconst 0 (v := 0) (kk := ?_)
  refine aw_pI 12 1 13 (hw := wd_1115) (kk := fun σ1 => ?_)
  exact aw_vret
def f_Ro_addc (F : Nat) (σ : am_S) (x0 : Nat) (x1 : Nat) : Option (Nat × am_S) :=
  am_ck σ 12 x0 (
  (am_gI σ 12 1 x1).bind fun v1 =>
  am_b2 (f_Ro_addb F σ x0 x1 0 v1) fun v2 σ3 =>
  some (v2, σ3))
theorem rc_Ro_addc {F : Nat} {σ : am_S} {x0 : Nat} {x1 : Nat} (h : (f_Ro_addc F σ x0 x1).isSome = true) : ∃ fs, σ.2.2 x0 = some (.inr (12, fs)) := am_ck_some h
theorem m_Ro_addc (g : am_G) (F : Nat) (σ : am_S) (x0 : Nat) (x1 : Nat) : am_Met g mx_Ro_addc [.ref x0, .ref x1] σ ((f_Ro_addc F σ x0 x1).bind am_kA) := by
  refine am_Met.of (lv := [some (.ref x0), some (.ref x1)]) (am_cc rfl (am_cc rfl am_c0)) (Nat.le_of_ble_eq_true rfl) rfl (by decide) ?_
  unfold f_Ro_addc
  refine am_W.ck ?_
  refine aw_aload_n 0 (kk := ?_)
  refine aw_aload_n 1 (kk := ?_)
  refine aw_iconst 0 (v := 0) (kk := ?_)
  refine aw_aload_n 1 (kk := ?_)
  refine aw_gI 12 1 13 (hw := wd_1115) (kk := fun v1 => ?_)
  refine ac_A (st := []) [.ref x0, .ref x1, .int 0, .int v1] (ag_V 21 12 rc_Ro_addb wd_1316 cal_Ro_addb wd_1317 wd_1318) cal_Ro_addb ⟨by decide, by decide⟩ (Nat.le_of_ble_eq_true rfl) (m_Ro_addb g F σ x0 x1 0 v1) (fun v2 σ3 => ?_)
  exact aw_aret
def f_Ro_set (F : Nat) (σ : am_S) (x0 : Nat) (x1 : Nat) : Option (Nat × am_S) :=
  am_ck σ 12 x0 (
  (f_Ro_clear F σ x0).bind fun σ1 =>
  am_b2 (f_Ro_addc F σ1 x0 x1) fun v2 σ3 =>
  some (v2, σ3))
theorem rc_Ro_set {F : Nat} {σ : am_S} {x0 : Nat} {x1 : Nat} (h : (f_Ro_set F σ x0 x1).isSome = true) : ∃ fs, σ.2.2 x0 = some (.inr (12, fs)) := am_ck_some h
theorem m_Ro_set (g : am_G) (F : Nat) (σ : am_S) (x0 : Nat) (x1 : Nat) : am_Met g mx_Ro_set [.ref x0, .ref x1] σ ((f_Ro_set F σ x0 x1).bind am_kA) := by
  refine am_Met.of (lv := [some (.ref x0), some (.ref x1)]) (am_cc rfl (am_cc rfl am_c0)) (Nat.le_of_ble_eq_true rfl) rfl (by decide) ?_
  unfold f_Ro_set
  refine am_W.ck ?_
  refine aw_aload_n 0 (kk := ?_)
  refine ac_V (st := []) [.ref x0] (ag_V 24 12 rc_Ro_clear wd_1311 cal_Ro_clear wd_1152 wd_1153) cal_Ro_clear ⟨by decide, by decide⟩ (Nat.le_of_ble_eq_true rfl) (m_Ro_clear g F σ x0) (fun σ1 => ?_)
  refine aw_aload_n 0 (kk := ?_)
  refine aw_aload_n 1 (kk := ?_)
  refine ac_A (st := []) [.ref x0, .ref x1] (ag_V 27 12 rc_Ro_addc wd_1312 cal_Ro_addc wd_1313 wd_1314) cal_Ro_addc ⟨by decide, by decide⟩ (Nat.le_of_ble_eq_true rfl) (m_Ro_addc g F σ1 x0 x1) (fun v2 σ3 => ?_)
  exact aw_aret
def f_Ro_init (F : Nat) (σ : am_S) (x0 : Nat) (x1 : Int32) : Option (am_S) :=
  am_ck σ 12 x0 (
  am_b2 (am_na σ .byte x1) fun a1 σ2 =>
  (am_pA σ2 12 0 x0 a1).bind fun σ3 =>
  some σ3)
theorem rc_Ro_init {F : Nat} {σ : am_S} {x0 : Nat} {x1 : Int32} (h : (f_Ro_init F σ x0 x1).isSome = true) : ∃ fs, σ.2.2 x0 = some (.inr (12, fs)) := am_ck_some h
theorem m_Ro_init (g : am_G) (F : Nat) (σ : am_S) (x0 : Nat) (x1 : Int32) : am_Met g mx_Ro_init [.ref x0, .int x1] σ ((f_Ro_init F σ x0 x1).bind am_kV) := by
  refine am_Met.of (lv := [some (.ref x0), some (.int x1)]) (am_cc rfl (am_cc rfl am_c0)) (Nat.le_of_ble_eq_true rfl) rfl (by decide) ?_
  unfold f_Ro_init
  refine am_W.ck ?_
  refine aw_aload_n 0 (kk := ?_)
  refine aw_obj 1 (hw := wd_1112) (hw2 := wd_33) (hw3 := wd_34) (hr := Nat.le_of_ble_eq_true rfl) (kk := ?_)
  refine aw_aload_n 0 (kk := ?_)
  refine aw_iload_n 1 (kk := ?_)
  refine aw_na2 .byte (hw := wd_54) (kk := fun a1 σ2 => ?_)
  refine aw_pA 12 0 7 (hw := wd_1113) (kk := fun σ3 => ?_)
  exact aw_vret
def f_Ro_four (F : Nat) (σ : am_S) (x0 : Nat) (x1 : Int32) : Option (Nat × am_S) :=
  am_ck σ 12 x0 (
  am_b2 (f_Ro_adda F σ x0 (am_ushr x1 24)) fun v1 σ2 =>
  am_b2 (f_Ro_adda F σ2 v1 (am_ushr x1 16)) fun v3 σ4 =>
  am_b2 (f_Ro_adda F σ4 v3 (am_ushr x1 8)) fun v5 σ6 =>
  am_b2 (f_Ro_adda F σ6 v5 x1) fun v7 σ8 =>
  some (v7, σ8))
theorem rc_Ro_four {F : Nat} {σ : am_S} {x0 : Nat} {x1 : Int32} (h : (f_Ro_four F σ x0 x1).isSome = true) : ∃ fs, σ.2.2 x0 = some (.inr (12, fs)) := am_ck_some h
theorem m_Ro_four (g : am_G) (F : Nat) (σ : am_S) (x0 : Nat) (x1 : Int32) : am_Met g mx_Ro_four [.ref x0, .int x1] σ ((f_Ro_four F σ x0 x1).bind am_kA) := by
  refine am_Met.of (lv := [some (.ref x0), some (.int x1)]) (am_cc rfl (am_cc rfl am_c0)) (Nat.le_of_ble_eq_true rfl) rfl (by decide) ?_
  unfold f_Ro_four
  refine am_W.ck ?_
  refine aw_aload_n 0 (kk := ?_)
  refine aw_iload_n 1 (kk := ?_)
  refine aw_bipush 24 (v := 24) (kk := ?_)
  refine aw_iushr (kk := ?_)
  refine ac_A (st := []) [.ref x0, .int (am_ushr x1 24)] (ag_V 17 12 rc_Ro_adda wd_1299 cal_Ro_adda wd_1300 wd_1301) cal_Ro_adda ⟨by decide, by decide⟩ (Nat.le_of_ble_eq_true rfl) (m_Ro_adda g F σ x0 (am_ushr x1 24)) (fun v1 σ2 => ?_)
  refine aw_iload_n 1 (kk := ?_)
  refine aw_bipush 16 (v := 16) (kk := ?_)
  refine aw_iushr (kk := ?_)
  refine ac_A (st := []) [.ref v1, .int (am_ushr x1 16)] (ag_V 17 12 rc_Ro_adda wd_1299 cal_Ro_adda wd_1300 wd_1301) cal_Ro_adda ⟨by decide, by decide⟩ (Nat.le_of_ble_eq_true rfl) (m_Ro_adda g F σ2 v1 (am_ushr x1 16)) (fun v3 σ4 => ?_)
  refine aw_iload_n 1 (kk := ?_)
  refine aw_bipush 8 (v := 8) (kk := ?_)
  refine aw_iushr (kk := ?_)
  refine ac_A (st := []) [.ref v3, .int (am_ushr x1 8)] (ag_V 17 12 rc_Ro_adda wd_1299 cal_Ro_adda wd_1300 wd_1301) cal_Ro_adda ⟨by decide, by decide⟩ (Nat.le_of_ble_eq_true rfl) (m_Ro_adda g F σ4 v3 (am_ushr x1 8)) (fun v5 σ6 => ?_)
  refine aw_iload_n 1 (kk := ?_)
  refine ac_A (st := []) [.ref v5, .int x1] (ag_V 17 12 rc_Ro_adda wd_1299 cal_Ro_adda wd_1300 wd_1301) cal_Ro_adda ⟨by decide, by decide⟩ (Nat.le_of_ble_eq_true rfl) (m_Ro_adda g F σ6 v5 x1) (fun v7 σ8 => ?_)
  exact aw_aret
