/-! ===== printed by wip/gen ===== -/
def f_Ps_length (F : Nat) (σ : am_S) (x0 : Nat) (x1 : Int32) : Option (Int32) :=
  am_ck σ 11 x0 (
  (am_gA σ 11 1 x0).bind fun v1 =>
  (am_lI σ .int v1 (x1 + 1)).bind fun v2 =>
  (am_gA σ 11 1 x0).bind fun v3 =>
  (am_lI σ .int v3 x1).bind fun v4 =>
  some (v2 - v4))
theorem rc_Ps_length {F : Nat} {σ : am_S} {x0 : Nat} {x1 : Int32} (h : (f_Ps_length F σ x0 x1).isSome = true) : ∃ fs, σ.2.2 x0 = some (.inr (11, fs)) := am_ck_some h
theorem m_Ps_length (g : am_G) (F : Nat) (σ : am_S) (x0 : Nat) (x1 : Int32) : am_Met g mx_Ps_length [.ref x0, .int x1] σ ((f_Ps_length F σ x0 x1).bind (am_kPI σ)) := by
  refine am_Met.of (lv := [some (.ref x0), some (.int x1)]) (am_cc rfl (am_cc rfl am_c0)) (Nat.le_of_ble_eq_true rfl) rfl (by decide) ?_
  unfold f_Ps_length
  refine am_W.ck ?_
  refine aw_aload_n 0 (kk := ?_)
  refine aw_gA 11 1 20 (hw := wd_1125) (kk := fun v1 => ?_)
  refine aw_iload_n 1 (kk := ?_)
  refine aw_iconst 1 (v := 1) (kk := ?_)
  refine aw_iadd (kk := ?_)
  refine aw_lI (kk := fun v2 => ?_)
  refine aw_aload_n 0 (kk := ?_)
  refine aw_gA 11 1 20 (hw := wd_1125) (kk := fun v3 => ?_)
  refine aw_iload_n 1 (kk := ?_)
  refine aw_lI (kk := fun v4 => ?_)
  refine aw_isub (kk := ?_)
  exact aw_iretP
def f_Ps_comparea_l17 (σ : am_S) (F : Nat) (x0 : Nat) (x1 : Int32) (x2 : Nat) (x3 : Int32) (x4 : Int32) (x5 : Int32)  : Nat → Int32 → Option (Int32)
  | 0, _ => none
  | n + 1, x6 =>
    if x4 ≤ x6 then
      some (x4 - x5)
    else
      if x5 ≤ x6 then
        some (x4 - x5)
      else
        (am_gA σ 11 0 x0).bind fun v3 =>
        (am_gA σ 11 1 x0).bind fun v4 =>
        (am_lI σ .int v4 x1).bind fun v5 =>
        (f_Ro_get F σ v3 (v5 + x6)).bind fun v6 =>
        (am_gA σ 11 0 x2).bind fun v7 =>
        (am_gA σ 11 1 x2).bind fun v8 =>
        (am_lI σ .int v8 x3).bind fun v9 =>
        (f_Ro_get F σ v7 (v9 + x6)).bind fun v10 =>
        if v6 = v10 then
          f_Ps_comparea_l17 σ F x0 x1 x2 x3 x4 x5 n (x6 + 1)
        else
          some (v6 - v10)
theorem b_Ps_comparea_l17 {g : am_G} {σ0 σ : am_S} (F : Nat) (x0 : Nat) (x1 : Int32) (x2 : Nat) (x3 : Int32) (x4 : Int32) (x5 : Int32)   : ∀ (n : Nat) (x6 : Int32), am_W g mx_Ps_comparea σ0 17 [some (.ref x0), some (.int x1), some (.ref x2), some (.int x3), some (.int x4), some (.int x5), some (.int x6), none, none] [] σ (f_Ps_comparea_l17 σ F x0 x1 x2 x3 x4 x5 n x6) (am_kPI σ) := by
  intro n
  induction n with
  | zero =>
    intro x6
    rw [f_Ps_comparea_l17]
    exact am_W.none
  | succ n ih =>
    intro x6
    rw [f_Ps_comparea_l17]
    refine aw_iload 6 (kk := ?_)
    refine aw_iload 4 (kk := ?_)
    refine aw_icmp_ge 65 86 (kt := fun _ => ?_) (kf := fun _ => ?_)
    · refine aw_iload 4 (kk := ?_)
      refine aw_iload 5 (kk := ?_)
      refine aw_isub (kk := ?_)
      exact aw_iretP
    · refine aw_iload 6 (kk := ?_)
      refine aw_iload 5 (kk := ?_)
      refine aw_icmp_ge 58 86 (kt := fun _ => ?_) (kf := fun _ => ?_)
      · refine aw_iload 4 (kk := ?_)
        refine aw_iload 5 (kk := ?_)
        refine aw_isub (kk := ?_)
        exact aw_iretP
      · refine aw_aload_n 0 (kk := ?_)
        refine aw_gA 11 0 14 (hw := wd_1123) (kk := fun v3 => ?_)
        refine aw_aload_n 0 (kk := ?_)
        refine aw_gA 11 1 20 (hw := wd_1125) (kk := fun v4 => ?_)
        refine aw_iload_n 1 (kk := ?_)
        refine aw_lI (kk := fun v5 => ?_)
        refine aw_iload 6 (kk := ?_)
        refine aw_iadd (kk := ?_)
        refine ac_PI (st := []) [.ref v3, .int (v5 + x6)] (ag_V 47 12 rc_Ro_get wd_1361 cal_Ro_get wd_1336 wd_1337) cal_Ro_get ⟨by decide, by decide⟩ (Nat.le_of_ble_eq_true rfl) (m_Ro_get g F σ v3 (v5 + x6)) (fun v6 => ?_)
        refine aw_istore 7 (kk := ?_)
        refine aw_aload_n 2 (kk := ?_)
        refine aw_gA 11 0 14 (hw := wd_1123) (kk := fun v7 => ?_)
        refine aw_aload_n 2 (kk := ?_)
        refine aw_gA 11 1 20 (hw := wd_1125) (kk := fun v8 => ?_)
        refine aw_iload_n 3 (kk := ?_)
        refine aw_lI (kk := fun v9 => ?_)
        refine aw_iload 6 (kk := ?_)
        refine aw_iadd (kk := ?_)
        refine ac_PI (st := []) [.ref v7, .int (v9 + x6)] (ag_V 47 12 rc_Ro_get wd_1361 cal_Ro_get wd_1336 wd_1337) cal_Ro_get ⟨by decide, by decide⟩ (Nat.le_of_ble_eq_true rfl) (m_Ro_get g F σ v7 (v9 + x6)) (fun v10 => ?_)
        refine aw_istore 8 (kk := ?_)
        refine aw_iload 7 (kk := ?_)
        refine aw_iload 8 (kk := ?_)
        refine aw_icmp_eq 9 80 (kt := fun _ => ?_) (kf := fun _ => ?_)
        · refine aw_iinc 6 1 (v := 1) (kk := ?_)
          refine aw_goto (-66) 17 (kk := ?_)
          exact am_W.drop [true, true, true, true, true, true, true, false, false] (ih (x6 + 1))
        · refine aw_iload 7 (kk := ?_)
          refine aw_iload 8 (kk := ?_)
          refine aw_isub (kk := ?_)
          exact aw_iretP
def f_Ps_comparea (F : Nat) (σ : am_S) (x0 : Nat) (x1 : Int32) (x2 : Nat) (x3 : Int32) : Option (Int32) :=
  am_ck σ 11 x0 (
  (f_Ps_length F σ x0 x1).bind fun v1 =>
  (f_Ps_length F σ x2 x3).bind fun v2 =>
  f_Ps_comparea_l17 σ F x0 x1 x2 x3 v1 v2 F 0)
theorem rc_Ps_comparea {F : Nat} {σ : am_S} {x0 : Nat} {x1 : Int32} {x2 : Nat} {x3 : Int32} (h : (f_Ps_comparea F σ x0 x1 x2 x3).isSome = true) : ∃ fs, σ.2.2 x0 = some (.inr (11, fs)) := am_ck_some h
theorem m_Ps_comparea (g : am_G) (F : Nat) (σ : am_S) (x0 : Nat) (x1 : Int32) (x2 : Nat) (x3 : Int32) : am_Met g mx_Ps_comparea [.ref x0, .int x1, .ref x2, .int x3] σ ((f_Ps_comparea F σ x0 x1 x2 x3).bind (am_kPI σ)) := by
  refine am_Met.of (lv := [some (.ref x0), some (.int x1), some (.ref x2), some (.int x3), none, none, none, none, none]) (am_cc rfl (am_cc rfl (am_cc rfl (am_cc rfl am_c0)))) (Nat.le_of_ble_eq_true rfl) rfl (by decide) ?_
  unfold f_Ps_comparea
  refine am_W.ck ?_
  refine aw_aload_n 0 (kk := ?_)
  refine aw_iload_n 1 (kk := ?_)
  refine ac_PI (st := []) [.ref x0, .int x1] (ag_V 43 11 rc_Ps_length wd_1357 cal_Ps_length wd_1358 wd_1359) cal_Ps_length ⟨by decide, by decide⟩ (Nat.le_of_ble_eq_true rfl) (m_Ps_length g F σ x0 x1) (fun v1 => ?_)
  refine aw_istore 4 (kk := ?_)
  refine aw_aload_n 2 (kk := ?_)
  refine aw_iload_n 3 (kk := ?_)
  refine ac_PI (st := []) [.ref x2, .int x3] (ag_V 43 11 rc_Ps_length wd_1357 cal_Ps_length wd_1358 wd_1359) cal_Ps_length ⟨by decide, by decide⟩ (Nat.le_of_ble_eq_true rfl) (m_Ps_length g F σ x2 x3) (fun v2 => ?_)
  refine aw_istore 5 (kk := ?_)
  refine aw_iconst 0 (v := 0) (kk := ?_)
  refine aw_istore 6 (kk := ?_)
  exact am_W.drop [true, true, true, true, true, true, true, false, false] (b_Ps_comparea_l17 F x0 x1 x2 x3 v1 v2 F 0)
def f_Ps_findb_l2 (σ : am_S) (F : Nat) (x0 : Nat) (x1 : Nat) (x2 : Int32)  : Nat → Int32 → Option (Int32)
  | 0, _ => none
  | n + 1, x3 =>
    (am_gI σ 11 4 x0).bind fun v1 =>
    if v1 ≤ x3 then
      some (-1)
    else
      (f_Ps_comparea F σ x0 x3 x1 x2).bind fun v2 =>
      if v2 = 0 then
        some x3
      else
        f_Ps_findb_l2 σ F x0 x1 x2 n (x3 + 1)
theorem b_Ps_findb_l2 {g : am_G} {σ0 σ : am_S} (F : Nat) (x0 : Nat) (x1 : Nat) (x2 : Int32)   : ∀ (n : Nat) (x3 : Int32), am_W g mx_Ps_findb σ0 2 [some (.ref x0), some (.ref x1), some (.int x2), some (.int x3)] [] σ (f_Ps_findb_l2 σ F x0 x1 x2 n x3) (am_kPI σ) := by
  intro n
  induction n with
  | zero =>
    intro x3
    rw [f_Ps_findb_l2]
    exact am_W.none
  | succ n ih =>
    intro x3
    rw [f_Ps_findb_l2]
    refine aw_iload_n 3 (kk := ?_)
    refine aw_aload_n 0 (kk := ?_)
    refine aw_gI 11 4 31 (hw := wd_1131) (kk := fun v1 => ?_)
    refine aw_icmp_ge 21 28 (kt := fun _ => ?_) (kf := fun _ => ?_)
    · refine aw_iconst (-1) (v := (-1)) (kk := ?_)
      exact aw_iretP
    · refine aw_aload_n 0 (kk := ?_)
      refine aw_iload_n 3 (kk := ?_)
      refine aw_aload_n 1 (kk := ?_)
      refine aw_iload_n 2 (kk := ?_)
      refine ac_PI (st := []) [.ref x0, .int x3, .ref x1, .int x2] (ag_V 54 11 rc_Ps_comparea wd_1422 cal_Ps_comparea wd_1423 wd_1424) cal_Ps_comparea ⟨by decide, by decide⟩ (Nat.le_of_ble_eq_true rfl) (m_Ps_comparea g F σ x0 x3 x1 x2) (fun v2 => ?_)
      refine aw_if_ne 5 22 (kt := fun _ => ?_) (kf := fun _ => ?_)
      · refine aw_iinc 3 1 (v := 1) (kk := ?_)
        refine aw_goto (-23) 2 (kk := ?_)
        exact am_W.drop [true, true, true, true] (ih (x3 + 1))
      · refine aw_iload_n 3 (kk := ?_)
        exact aw_iretP
def f_Ps_findb (F : Nat) (σ : am_S) (x0 : Nat) (x1 : Nat) (x2 : Int32) : Option (Int32) :=
  am_ck σ 11 x0 (
  f_Ps_findb_l2 σ F x0 x1 x2 F 0)
theorem rc_Ps_findb {F : Nat} {σ : am_S} {x0 : Nat} {x1 : Nat} {x2 : Int32} (h : (f_Ps_findb F σ x0 x1 x2).isSome = true) : ∃ fs, σ.2.2 x0 = some (.inr (11, fs)) := am_ck_some h
theorem m_Ps_findb (g : am_G) (F : Nat) (σ : am_S) (x0 : Nat) (x1 : Nat) (x2 : Int32) : am_Met g mx_Ps_findb [.ref x0, .ref x1, .int x2] σ ((f_Ps_findb F σ x0 x1 x2).bind (am_kPI σ)) := by
  refine am_Met.of (lv := [some (.ref x0), some (.ref x1), some (.int x2), none]) (am_cc rfl (am_cc rfl (am_cc rfl am_c0))) (Nat.le_of_ble_eq_true rfl) rfl (by decide) ?_
  unfold f_Ps_findb
  refine am_W.ck ?_
  refine aw_iconst 0 (v := 0) (kk := ?_)
  refine aw_istore_n 3 (kk := ?_)
  exact am_W.drop [true, true, true, true] (b_Ps_findb_l2 F x0 x1 x2 F 0)
def f_Ps_add (F : Nat) (σ : am_S) (x0 : Nat) (x1 : Nat) (x2 : Int32) (x3 : Int32) : Option (Int32 × am_S) :=
  am_ck σ 11 x0 (
  (am_gA σ 11 0 x0).bind fun v1 =>
  am_b2 (f_Ro_addb F σ v1 x1 x2 x3) fun v2 σ3 =>
  (am_gI σ3 11 4 x0).bind fun v4 =>
  (am_pI σ3 11 4 x0 (v4 + 1)).bind fun σ5 =>
  (am_gA σ5 11 1 x0).bind fun v6 =>
  (am_gI σ5 11 4 x0).bind fun v7 =>
  (am_gA σ5 11 0 x0).bind fun v8 =>
  (am_gI σ5 12 1 v8).bind fun v9 =>
  (am_sI σ5 v6 v7 v9).bind fun σ10 =>
  (am_gA σ10 11 3 x0).bind fun v11 =>
  (am_gI σ10 11 4 x0).bind fun v12 =>
  (am_sZ σ10 v11 (v12 - 1) 0).bind fun σ13 =>
  (am_gA σ13 11 2 x0).bind fun v14 =>
  (am_gI σ13 11 4 x0).bind fun v15 =>
  (am_sI σ13 v14 ((3 * v15) - 3) (-1)).bind fun σ16 =>
  (am_gA σ16 11 2 x0).bind fun v17 =>
  (am_gI σ16 11 4 x0).bind fun v18 =>
  (am_sI σ16 v17 ((3 * v18) - 2) (-1)).bind fun σ19 =>
  (am_gA σ19 11 2 x0).bind fun v20 =>
  (am_gI σ19 11 4 x0).bind fun v21 =>
  (am_sI σ19 v20 ((3 * v21) - 1) (-1)).bind fun σ22 =>
  (am_gI σ22 11 4 x0).bind fun v23 =>
  some ((v23 - 1), σ22))
theorem rc_Ps_add {F : Nat} {σ : am_S} {x0 : Nat} {x1 : Nat} {x2 : Int32} {x3 : Int32} (h : (f_Ps_add F σ x0 x1 x2 x3).isSome = true) : ∃ fs, σ.2.2 x0 = some (.inr (11, fs)) := am_ck_some h
theorem m_Ps_add (g : am_G) (F : Nat) (σ : am_S) (x0 : Nat) (x1 : Nat) (x2 : Int32) (x3 : Int32) : am_Met g mx_Ps_add [.ref x0, .ref x1, .int x2, .int x3] σ ((f_Ps_add F σ x0 x1 x2 x3).bind am_kI) := by
  refine am_Met.of (lv := [some (.ref x0), some (.ref x1), some (.int x2), some (.int x3)]) (am_cc rfl (am_cc rfl (am_cc rfl (am_cc rfl am_c0)))) (Nat.le_of_ble_eq_true rfl) rfl (by decide) ?_
  unfold f_Ps_add
  refine am_W.ck ?_
  refine aw_aload_n 0 (kk := ?_)
  refine aw_gA 11 0 14 (hw := wd_1123) (kk := fun v1 => ?_)
  refine aw_aload_n 1 (kk := ?_)
  refine aw_iload_n 2 (kk := ?_)
  refine aw_iload_n 3 (kk := ?_)
  refine ac_A (st := []) [.ref v1, .ref x1, .int x2, .int x3] (ag_V 38 12 rc_Ro_addb wd_1370 cal_Ro_addb wd_1317 wd_1318) cal_Ro_addb ⟨by decide, by decide⟩ (Nat.le_of_ble_eq_true rfl) (m_Ro_addb g F σ v1 x1 x2 x3) (fun v2 σ3 => ?_)
  refine aw_pop (kk := ?_)
  refine aw_aload_n 0 (kk := ?_)
  refine aw_dup (kk := ?_)
  refine aw_gI 11 4 31 (hw := wd_1131) (kk := fun v4 => ?_)
  refine aw_iconst 1 (v := 1) (kk := ?_)
  refine aw_iadd (kk := ?_)
  refine aw_pI 11 4 31 (hw := wd_1131) (kk := fun σ5 => ?_)
  refine aw_aload_n 0 (kk := ?_)
  refine aw_gA 11 1 20 (hw := wd_1125) (kk := fun v6 => ?_)
  refine aw_aload_n 0 (kk := ?_)
  refine aw_gI 11 4 31 (hw := wd_1131) (kk := fun v7 => ?_)
  refine aw_aload_n 0 (kk := ?_)
  refine aw_gA 11 0 14 (hw := wd_1123) (kk := fun v8 => ?_)
  refine aw_gI 12 1 42 (hw := wd_1117) (kk := fun v9 => ?_)
  refine aw_sI (kk := fun σ10 => ?_)
  refine aw_aload_n 0 (kk := ?_)
  refine aw_gA 11 3 27 (hw := wd_1129) (kk := fun v11 => ?_)
  refine aw_aload_n 0 (kk := ?_)
  refine aw_gI 11 4 31 (hw := wd_1131) (kk := fun v12 => ?_)
  refine aw_iconst 1 (v := 1) (kk := ?_)
  refine aw_isub (kk := ?_)
  refine aw_iconst 0 (v := 0) (kk := ?_)
  refine aw_sZ (kk := fun σ13 => ?_)
  refine aw_aload_n 0 (kk := ?_)
  refine aw_gA 11 2 24 (hw := wd_1127) (kk := fun v14 => ?_)
  refine aw_iconst 3 (v := 3) (kk := ?_)
  refine aw_aload_n 0 (kk := ?_)
  refine aw_gI 11 4 31 (hw := wd_1131) (kk := fun v15 => ?_)
  refine aw_imul (kk := ?_)
  refine aw_iconst 3 (v := 3) (kk := ?_)
  refine aw_isub (kk := ?_)
  refine aw_iconst (-1) (v := (-1)) (kk := ?_)
  refine aw_sI (kk := fun σ16 => ?_)
  refine aw_aload_n 0 (kk := ?_)
  refine aw_gA 11 2 24 (hw := wd_1127) (kk := fun v17 => ?_)
  refine aw_iconst 3 (v := 3) (kk := ?_)
  refine aw_aload_n 0 (kk := ?_)
  refine aw_gI 11 4 31 (hw := wd_1131) (kk := fun v18 => ?_)
  refine aw_imul (kk := ?_)
  refine aw_iconst 2 (v := 2) (kk := ?_)
  refine aw_isub (kk := ?_)
  refine aw_iconst (-1) (v := (-1)) (kk := ?_)
  refine aw_sI (kk := fun σ19 => ?_)
  refine aw_aload_n 0 (kk := ?_)
  refine aw_gA 11 2 24 (hw := wd_1127) (kk := fun v20 => ?_)
  refine aw_iconst 3 (v := 3) (kk := ?_)
  refine aw_aload_n 0 (kk := ?_)
  refine aw_gI 11 4 31 (hw := wd_1131) (kk := fun v21 => ?_)
  refine aw_imul (kk := ?_)
  refine aw_iconst 1 (v := 1) (kk := ?_)
  refine aw_isub (kk := ?_)
  refine aw_iconst (-1) (v := (-1)) (kk := ?_)
  refine aw_sI (kk := fun σ22 => ?_)
  refine aw_aload_n 0 (kk := ?_)
  refine aw_gI 11 4 31 (hw := wd_1131) (kk := fun v23 => ?_)
  refine aw_iconst 1 (v := 1) (kk := ?_)
  refine aw_isub (kk := ?_)
  exact aw_iret
def f_Ps_clear (F : Nat) (σ : am_S) (x0 : Nat) : Option (am_S) :=
  am_ck σ 11 x0 (
  (am_pI σ 11 4 x0 0).bind fun σ1 =>
  (am_gA σ1 11 0 x0).bind fun v2 =>
  (f_Ro_clear F σ1 v2).bind fun σ3 =>
  (am_gA σ3 11 1 x0).bind fun v4 =>
  (am_sI σ3 v4 0 0).bind fun σ5 =>
  some σ5)
theorem rc_Ps_clear {F : Nat} {σ : am_S} {x0 : Nat} (h : (f_Ps_clear F σ x0).isSome = true) : ∃ fs, σ.2.2 x0 = some (.inr (11, fs)) := am_ck_some h
theorem m_Ps_clear (g : am_G) (F : Nat) (σ : am_S) (x0 : Nat) : am_Met g mx_Ps_clear [.ref x0] σ ((f_Ps_clear F σ x0).bind am_kV) := by
  refine am_Met.of (lv := [some (.ref x0)]) (am_cc rfl am_c0) (Nat.le_of_ble_eq_true rfl) rfl (by decide) ?_
  unfold f_Ps_clear
  refine am_W.ck ?_
  refine aw_aload_n 0 (kk := ?_)
  refine aw_iconst 0 (v := 0) (kk := ?_)
  refine aw_pI 11 4 31 (hw := wd_1131) (kk := fun σ1 => ?_)
  refine aw_aload_n 0 (kk := ?_)
  refine aw_gA 11 0 14 (hw := wd_1123) (kk := fun v2 => ?_)
  refine ac_V (st := []) [.ref v2] (ag_V 35 12 rc_Ro_clear wd_1151 cal_Ro_clear wd_1152 wd_1153) cal_Ro_clear ⟨by decide, by decide⟩ (Nat.le_of_ble_eq_true rfl) (m_Ro_clear g F σ1 v2) (fun σ3 => ?_)
  refine aw_aload_n 0 (kk := ?_)
  refine aw_gA 11 1 20 (hw := wd_1125) (kk := fun v4 => ?_)
  refine aw_iconst 0 (v := 0) (kk := ?_)
  refine aw_iconst 0 (v := 0) (kk := ?_)
  refine aw_sI (kk := fun σ5 => ?_)
  exact aw_vret
def f_Ps_take_l26 (F : Nat) (x0 : Nat) (x1 : Nat) (x2 : Int32) (x3 : Int32) (k60 : am_S → Option (am_S)) : Nat → Int32 → am_S → Option (am_S)
  | 0, _, _ => none
  | n + 1, x4, σ =>
    if 3 ≤ x4 then
      k60 σ
    else
      (am_gA σ 11 2 x0).bind fun v8 =>
      (am_gA σ 11 2 x1).bind fun v9 =>
      (am_lI σ .int v9 ((3 * x2) + x4)).bind fun v10 =>
      (am_sI σ v8 ((3 * x3) + x4) v10).bind fun σ11 =>
      f_Ps_take_l26 F x0 x1 x2 x3 k60 n (x4 + 1) σ11
theorem b_Ps_take_l26 {g : am_G} {σ0 : am_S} (F : Nat) (x0 : Nat) (x1 : Nat) (x2 : Int32) (x3 : Int32) (k60 : am_S → Option (am_S)) (h60 : ∀ (τ : am_S), am_W g mx_Ps_take σ0 60 [some (.ref x0), some (.ref x1), some (.int x2), some (.int x3), none] [] τ (k60 τ) am_kV) : ∀ (n : Nat) (x4 : Int32) (σ : am_S), am_W g mx_Ps_take σ0 26 [some (.ref x0), some (.ref x1), some (.int x2), some (.int x3), some (.int x4)] [] σ (f_Ps_take_l26 F x0 x1 x2 x3 k60 n x4 σ) am_kV := by
  intro n
  induction n with
  | zero =>
    intro x4 σ
    rw [f_Ps_take_l26]
    exact am_W.none
  | succ n ih =>
    intro x4 σ
    rw [f_Ps_take_l26]
    refine aw_iload 4 (kk := ?_)
    refine aw_iconst 3 (v := 3) (kk := ?_)
    refine aw_icmp_ge 31 60 (kt := fun _ => ?_) (kf := fun _ => ?_)
    · exact am_W.drop [true, true, true, true, false] (h60 σ)
    · refine aw_aload_n 0 (kk := ?_)
      refine aw_gA 11 2 24 (hw := wd_1127) (kk := fun v8 => ?_)
      refine aw_iconst 3 (v := 3) (kk := ?_)
      refine aw_iload_n 3 (kk := ?_)
      refine aw_imul (kk := ?_)
      refine aw_iload 4 (kk := ?_)
      refine aw_iadd (kk := ?_)
      refine aw_aload_n 1 (kk := ?_)
      refine aw_gA 11 2 24 (hw := wd_1127) (kk := fun v9 => ?_)
      refine aw_iconst 3 (v := 3) (kk := ?_)
      refine aw_iload_n 2 (kk := ?_)
      refine aw_imul (kk := ?_)
      refine aw_iload 4 (kk := ?_)
      refine aw_iadd (kk := ?_)
      refine aw_lI (kk := fun v10 => ?_)
      refine aw_sI (kk := fun σ11 => ?_)
      refine aw_iinc 4 1 (v := 1) (kk := ?_)
      refine aw_goto (-31) 26 (kk := ?_)
      exact am_W.drop [true, true, true, true, true] (ih (x4 + 1) σ11)
def f_Ps_take_j60 (F : Nat) (x0 : Nat) (x1 : Nat) (x2 : Int32) (x3 : Int32)  (σ : am_S) : Option (am_S) :=
  (am_gA σ 11 3 x0).bind fun v12 =>
  (am_gA σ 11 3 x1).bind fun v13 =>
  (am_lI σ .boolean v13 x2).bind fun v14 =>
  (am_sZ σ v12 x3 v14).bind fun σ15 =>
  some σ15
theorem b_Ps_take_j60 {g : am_G} {σ0 : am_S} (F : Nat) (x0 : Nat) (x1 : Nat) (x2 : Int32) (x3 : Int32)   (σ : am_S) : am_W g mx_Ps_take σ0 60 [some (.ref x0), some (.ref x1), some (.int x2), some (.int x3), none] [] σ (f_Ps_take_j60 F x0 x1 x2 x3 σ) am_kV := by
  unfold f_Ps_take_j60
  refine aw_aload_n 0 (kk := ?_)
  refine aw_gA 11 3 27 (hw := wd_1129) (kk := fun v12 => ?_)
  refine aw_iload_n 3 (kk := ?_)
  refine aw_aload_n 1 (kk := ?_)
  refine aw_gA 11 3 27 (hw := wd_1129) (kk := fun v13 => ?_)
  refine aw_iload_n 2 (kk := ?_)
  refine aw_lZ (kk := fun v14 => ?_)
  refine aw_sZ (kk := fun σ15 => ?_)
  exact aw_vret
def f_Ps_take (F : Nat) (σ : am_S) (x0 : Nat) (x1 : Nat) (x2 : Int32) : Option (am_S) :=
  am_ck σ 11 x0 (
  (am_gA σ 11 0 x1).bind fun v1 =>
  (am_gA σ 11 1 x1).bind fun v2 =>
  (am_lI σ .int v2 x2).bind fun v3 =>
  (am_gA σ 11 1 x1).bind fun v4 =>
  (am_lI σ .int v4 (x2 + 1)).bind fun v5 =>
  am_b2 (f_Ps_add F σ x0 v1 v3 v5) fun v6 σ7 =>
  f_Ps_take_l26 F x0 x1 x2 v6 (fun τ => f_Ps_take_j60 F x0 x1 x2 v6 τ) F 0 σ7)
theorem rc_Ps_take {F : Nat} {σ : am_S} {x0 : Nat} {x1 : Nat} {x2 : Int32} (h : (f_Ps_take F σ x0 x1 x2).isSome = true) : ∃ fs, σ.2.2 x0 = some (.inr (11, fs)) := am_ck_some h
theorem m_Ps_take (g : am_G) (F : Nat) (σ : am_S) (x0 : Nat) (x1 : Nat) (x2 : Int32) : am_Met g mx_Ps_take [.ref x0, .ref x1, .int x2] σ ((f_Ps_take F σ x0 x1 x2).bind am_kV) := by
  refine am_Met.of (lv := [some (.ref x0), some (.ref x1), some (.int x2), none, none]) (am_cc rfl (am_cc rfl (am_cc rfl am_c0))) (Nat.le_of_ble_eq_true rfl) rfl (by decide) ?_
  unfold f_Ps_take
  refine am_W.ck ?_
  refine aw_aload_n 0 (kk := ?_)
  refine aw_aload_n 1 (kk := ?_)
  refine aw_gA 11 0 14 (hw := wd_1123) (kk := fun v1 => ?_)
  refine aw_aload_n 1 (kk := ?_)
  refine aw_gA 11 1 20 (hw := wd_1125) (kk := fun v2 => ?_)
  refine aw_iload_n 2 (kk := ?_)
  refine aw_lI (kk := fun v3 => ?_)
  refine aw_aload_n 1 (kk := ?_)
  refine aw_gA 11 1 20 (hw := wd_1125) (kk := fun v4 => ?_)
  refine aw_iload_n 2 (kk := ?_)
  refine aw_iconst 1 (v := 1) (kk := ?_)
  refine aw_iadd (kk := ?_)
  refine aw_lI (kk := fun v5 => ?_)
  refine ac_I (st := []) [.ref x0, .ref v1, .int v3, .int v5] (ag_V 61 11 rc_Ps_add wd_1366 cal_Ps_add wd_1367 wd_1368) cal_Ps_add ⟨by decide, by decide⟩ (Nat.le_of_ble_eq_true rfl) (m_Ps_add g F σ x0 v1 v3 v5) (fun v6 σ7 => ?_)
  refine aw_istore_n 3 (kk := ?_)
  refine aw_iconst 0 (v := 0) (kk := ?_)
  refine aw_istore 4 (kk := ?_)
  exact am_W.drop [true, true, true, true, true] (b_Ps_take_l26 F x0 x1 x2 v6 (fun τ => f_Ps_take_j60 F x0 x1 x2 v6 τ) (fun τ => am_W.drop [true, true, true, true, false] (b_Ps_take_j60 F x0 x1 x2 v6 τ)) F 0 σ7)
def f_Ps_under_l22 (σ : am_S) (F : Nat) (x0 : Nat) (x1 : Int32) (x2 : Nat) (x3 : Int32) (x4 : Int32) (k72 : Option (Int32)) : Nat → Int32 → Option (Int32)
  | 0, _ => none
  | n + 1, x5 =>
    if x4 ≤ x5 then
      k72
    else
      (am_gA σ 11 0 x0).bind fun v3 =>
      (am_gA σ 11 1 x0).bind fun v4 =>
      (am_lI σ .int v4 x1).bind fun v5 =>
      (f_Ro_get F σ v3 (v5 + x5)).bind fun v6 =>
      (am_gA σ 11 0 x2).bind fun v7 =>
      (am_gA σ 11 1 x2).bind fun v8 =>
      (am_lI σ .int v8 x3).bind fun v9 =>
      (f_Ro_get F σ v7 (v9 + x5)).bind fun v10 =>
      if v6 = v10 then
        f_Ps_under_l22 σ F x0 x1 x2 x3 x4 k72 n (x5 + 1)
      else
        some 0
theorem b_Ps_under_l22 {g : am_G} {σ0 σ : am_S} (F : Nat) (x0 : Nat) (x1 : Int32) (x2 : Nat) (x3 : Int32) (x4 : Int32) (k72 : Option (Int32)) (h72 : am_W g mx_Ps_under σ0 72 [some (.ref x0), some (.int x1), none, none, some (.int x4), none] [] σ (k72) (am_kPI σ)) : ∀ (n : Nat) (x5 : Int32), am_W g mx_Ps_under σ0 22 [some (.ref x0), some (.int x1), some (.ref x2), some (.int x3), some (.int x4), some (.int x5)] [] σ (f_Ps_under_l22 σ F x0 x1 x2 x3 x4 k72 n x5) (am_kPI σ) := by
  intro n
  induction n with
  | zero =>
    intro x5
    rw [f_Ps_under_l22]
    exact am_W.none
  | succ n ih =>
    intro x5
    rw [f_Ps_under_l22]
    refine aw_iload 5 (kk := ?_)
    refine aw_iload 4 (kk := ?_)
    refine aw_icmp_ge 46 72 (kt := fun _ => ?_) (kf := fun _ => ?_)
    · exact am_W.drop [true, true, false, false, true, false] (h72 )
    · refine aw_aload_n 0 (kk := ?_)
      refine aw_gA 11 0 14 (hw := wd_1123) (kk := fun v3 => ?_)
      refine aw_aload_n 0 (kk := ?_)
      refine aw_gA 11 1 20 (hw := wd_1125) (kk := fun v4 => ?_)
      refine aw_iload_n 1 (kk := ?_)
      refine aw_lI (kk := fun v5 => ?_)
      refine aw_iload 5 (kk := ?_)
      refine aw_iadd (kk := ?_)
      refine ac_PI (st := []) [.ref v3, .int (v5 + x5)] (ag_V 47 12 rc_Ro_get wd_1361 cal_Ro_get wd_1336 wd_1337) cal_Ro_get ⟨by decide, by decide⟩ (Nat.le_of_ble_eq_true rfl) (m_Ro_get g F σ v3 (v5 + x5)) (fun v6 => ?_)
      refine aw_aload_n 2 (kk := ?_)
      refine aw_gA 11 0 14 (hw := wd_1123) (kk := fun v7 => ?_)
      refine aw_aload_n 2 (kk := ?_)
      refine aw_gA 11 1 20 (hw := wd_1125) (kk := fun v8 => ?_)
      refine aw_iload_n 3 (kk := ?_)
      refine aw_lI (kk := fun v9 => ?_)
      refine aw_iload 5 (kk := ?_)
      refine aw_iadd (kk := ?_)
      refine ac_PI (st := [.int v6]) [.ref v7, .int (v9 + x5)] (ag_V 47 12 rc_Ro_get wd_1361 cal_Ro_get wd_1336 wd_1337) cal_Ro_get ⟨by decide, by decide⟩ (Nat.le_of_ble_eq_true rfl) (m_Ro_get g F σ v7 (v9 + x5)) (fun v10 => ?_)
      refine aw_icmp_eq 5 66 (kt := fun _ => ?_) (kf := fun _ => ?_)
      · refine aw_iinc 5 1 (v := 1) (kk := ?_)
        refine aw_goto (-47) 22 (kk := ?_)
        exact am_W.drop [true, true, true, true, true, true] (ih (x5 + 1))
      · refine aw_iconst 0 (v := 0) (kk := ?_)
        exact aw_zretPL (by decide)
def f_Ps_under_j103 (σ : am_S) (F : Nat)  : Option (Int32) :=
  some 1
theorem b_Ps_under_j103 {g : am_G} {σ0 σ : am_S} (F : Nat)   : am_W g mx_Ps_under σ0 103 [none, none, none, none, none, none] [] σ (f_Ps_under_j103 σ F) (am_kPI σ) := by
  unfold f_Ps_under_j103
  refine aw_iconst 1 (v := 1) (kk := ?_)
  refine aw_goto 4 108 (kk := ?_)
  exact aw_zretPL (by decide)
def f_Ps_under_j72 (σ : am_S) (F : Nat) (x0 : Nat) (x1 : Int32) (x4 : Int32)  : Option (Int32) :=
  (f_Ps_length F σ x0 x1).bind fun v11 =>
  if v11 = x4 then
    f_Ps_under_j103 σ F
  else
    (am_gA σ 11 0 x0).bind fun v12 =>
    (am_gA σ 11 1 x0).bind fun v13 =>
    (am_lI σ .int v13 x1).bind fun v14 =>
    (f_Ro_get F σ v12 (v14 + x4)).bind fun v15 =>
    if v15 = 47 then
      f_Ps_under_j103 σ F
    else
      some 0
theorem b_Ps_under_j72 {g : am_G} {σ0 σ : am_S} (F : Nat) (x0 : Nat) (x1 : Int32) (x4 : Int32)   : am_W g mx_Ps_under σ0 72 [some (.ref x0), some (.int x1), none, none, some (.int x4), none] [] σ (f_Ps_under_j72 σ F x0 x1 x4) (am_kPI σ) := by
  unfold f_Ps_under_j72
  refine aw_aload_n 0 (kk := ?_)
  refine aw_iload_n 1 (kk := ?_)
  refine ac_PI (st := []) [.ref x0, .int x1] (ag_V 43 11 rc_Ps_length wd_1357 cal_Ps_length wd_1358 wd_1359) cal_Ps_length ⟨by decide, by decide⟩ (Nat.le_of_ble_eq_true rfl) (m_Ps_length g F σ x0 x1) (fun v11 => ?_)
  refine aw_iload 4 (kk := ?_)
  refine aw_icmp_eq 24 103 (kt := fun _ => ?_) (kf := fun _ => ?_)
  · exact am_W.drop [false, false, false, false, false, false] (b_Ps_under_j103 F)
  · refine aw_aload_n 0 (kk := ?_)
    refine aw_gA 11 0 14 (hw := wd_1123) (kk := fun v12 => ?_)
    refine aw_aload_n 0 (kk := ?_)
    refine aw_gA 11 1 20 (hw := wd_1125) (kk := fun v13 => ?_)
    refine aw_iload_n 1 (kk := ?_)
    refine aw_lI (kk := fun v14 => ?_)
    refine aw_iload 4 (kk := ?_)
    refine aw_iadd (kk := ?_)
    refine ac_PI (st := []) [.ref v12, .int (v14 + x4)] (ag_V 47 12 rc_Ro_get wd_1361 cal_Ro_get wd_1336 wd_1337) cal_Ro_get ⟨by decide, by decide⟩ (Nat.le_of_ble_eq_true rfl) (m_Ro_get g F σ v12 (v14 + x4)) (fun v15 => ?_)
    refine aw_bipush 47 (v := 47) (kk := ?_)
    refine aw_icmp_ne 7 107 (kt := fun _ => ?_) (kf := fun _ => ?_)
    · refine aw_iconst 0 (v := 0) (kk := ?_)
      exact aw_zretPL (by decide)
    · exact am_W.drop [false, false, false, false, false, false] (b_Ps_under_j103 F)
def f_Ps_under (F : Nat) (σ : am_S) (x0 : Nat) (x1 : Int32) (x2 : Nat) (x3 : Int32) : Option (Int32) :=
  am_ck σ 11 x0 (
  (f_Ps_length F σ x2 x3).bind fun v1 =>
  (f_Ps_length F σ x0 x1).bind fun v2 =>
  if v1 ≤ v2 then
    f_Ps_under_l22 σ F x0 x1 x2 x3 v1 (f_Ps_under_j72 σ F x0 x1 v1) F 0
  else
    some 0)
theorem rc_Ps_under {F : Nat} {σ : am_S} {x0 : Nat} {x1 : Int32} {x2 : Nat} {x3 : Int32} (h : (f_Ps_under F σ x0 x1 x2 x3).isSome = true) : ∃ fs, σ.2.2 x0 = some (.inr (11, fs)) := am_ck_some h
theorem m_Ps_under (g : am_G) (F : Nat) (σ : am_S) (x0 : Nat) (x1 : Int32) (x2 : Nat) (x3 : Int32) : am_Met g mx_Ps_under [.ref x0, .int x1, .ref x2, .int x3] σ ((f_Ps_under F σ x0 x1 x2 x3).bind (am_kPI σ)) := by
  refine am_Met.of (lv := [some (.ref x0), some (.int x1), some (.ref x2), some (.int x3), none, none]) (am_cc rfl (am_cc rfl (am_cc rfl (am_cc rfl am_c0)))) (Nat.le_of_ble_eq_true rfl) rfl (by decide) ?_
  unfold f_Ps_under
  refine am_W.ck ?_
  refine aw_aload_n 2 (kk := ?_)
  refine aw_iload_n 3 (kk := ?_)
  refine ac_PI (st := []) [.ref x2, .int x3] (ag_V 43 11 rc_Ps_length wd_1357 cal_Ps_length wd_1358 wd_1359) cal_Ps_length ⟨by decide, by decide⟩ (Nat.le_of_ble_eq_true rfl) (m_Ps_length g F σ x2 x3) (fun v1 => ?_)
  refine aw_istore 4 (kk := ?_)
  refine aw_aload_n 0 (kk := ?_)
  refine aw_iload_n 1 (kk := ?_)
  refine ac_PI (st := []) [.ref x0, .int x1] (ag_V 43 11 rc_Ps_length wd_1357 cal_Ps_length wd_1358 wd_1359) cal_Ps_length ⟨by decide, by decide⟩ (Nat.le_of_ble_eq_true rfl) (m_Ps_length g F σ x0 x1) (fun v2 => ?_)
  refine aw_iload 4 (kk := ?_)
  refine aw_icmp_ge 5 19 (kt := fun _ => ?_) (kf := fun _ => ?_)
  · refine aw_iconst 0 (v := 0) (kk := ?_)
    refine aw_istore 5 (kk := ?_)
    exact am_W.drop [true, true, true, true, true, true] (b_Ps_under_l22 F x0 x1 x2 x3 v1 (f_Ps_under_j72 σ F x0 x1 v1) (am_W.drop [true, true, false, false, true, false] (b_Ps_under_j72 F x0 x1 v1)) F 0)
  · refine aw_iconst 0 (v := 0) (kk := ?_)
    exact aw_zretPL (by decide)
def f_Ps_fits_l37 (σ : am_S) (F : Nat) (x0 : Nat) (x1 : Int32) (k68 : Option (Int32)) : Nat → Int32 → Option (Int32)
  | 0, _ => none
  | n + 1, x2 =>
    (am_gI σ 11 4 x0).bind fun v5 =>
    if v5 ≤ x2 then
      k68
    else
      if x1 = x2 then
        f_Ps_fits_l37 σ F x0 x1 k68 n (x2 + 1)
      else
        (f_Ps_under F σ x0 x1 x0 x2).bind fun v6 =>
        if v6 = 0 then
          f_Ps_fits_l37 σ F x0 x1 k68 n (x2 + 1)
        else
          some 0
theorem b_Ps_fits_l37 {g : am_G} {σ0 σ : am_S} (F : Nat) (x0 : Nat) (x1 : Int32) (k68 : Option (Int32)) (h68 : am_W g mx_Ps_fits σ0 68 [some (.ref x0), some (.int x1), none] [] σ (k68) (am_kPI σ)) : ∀ (n : Nat) (x2 : Int32), am_W g mx_Ps_fits σ0 37 [some (.ref x0), some (.int x1), some (.int x2)] [] σ (f_Ps_fits_l37 σ F x0 x1 k68 n x2) (am_kPI σ) := by
  intro n
  induction n with
  | zero =>
    intro x2
    rw [f_Ps_fits_l37]
    exact am_W.none
  | succ n ih =>
    intro x2
    rw [f_Ps_fits_l37]
    refine aw_iload_n 2 (kk := ?_)
    refine aw_aload_n 0 (kk := ?_)
    refine aw_gI 11 4 31 (hw := wd_1131) (kk := fun v5 => ?_)
    refine aw_icmp_ge 26 68 (kt := fun _ => ?_) (kf := fun _ => ?_)
    · exact am_W.drop [true, true, false] (h68 )
    · refine aw_iload_n 1 (kk := ?_)
      refine aw_iload_n 2 (kk := ?_)
      refine aw_icmp_eq 15 62 (kt := fun _ => ?_) (kf := fun _ => ?_)
      · refine aw_iinc 2 1 (v := 1) (kk := ?_)
        refine aw_goto (-28) 37 (kk := ?_)
        exact am_W.drop [true, true, true] (ih (x2 + 1))
      · refine aw_aload_n 0 (kk := ?_)
        refine aw_iload_n 1 (kk := ?_)
        refine aw_aload_n 0 (kk := ?_)
        refine aw_iload_n 2 (kk := ?_)
        refine ac_PI (st := []) [.ref x0, .int x1, .ref x0, .int x2] (ag_V 57 11 rc_Ps_under wd_1376 cal_Ps_under wd_1377 wd_1378) cal_Ps_under ⟨by decide, by decide⟩ (Nat.le_of_ble_eq_true rfl) (m_Ps_under g F σ x0 x1 x0 x2) (fun v6 => ?_)
        refine aw_if_eq 5 62 (kt := fun _ => ?_) (kf := fun _ => ?_)
        · refine aw_iinc 2 1 (v := 1) (kk := ?_)
          refine aw_goto (-28) 37 (kk := ?_)
          exact am_W.drop [true, true, true] (ih (x2 + 1))
        · refine aw_iconst 0 (v := 0) (kk := ?_)
          exact aw_zretPL (by decide)
def f_Ps_fits_j68 (σ : am_S) (F : Nat) (x1 : Int32) (k27 : Int32 → Option (Int32)) : Option (Int32) :=
  k27 (x1 + 1)
theorem b_Ps_fits_j68 {g : am_G} {σ0 σ : am_S} (F : Nat) (x0 : Nat) (x1 : Int32) (k27 : Int32 → Option (Int32)) (h27 : ∀ (y1 : Int32), am_W g mx_Ps_fits σ0 27 [some (.ref x0), some (.int y1), none] [] σ (k27 y1) (am_kPI σ)) : am_W g mx_Ps_fits σ0 68 [some (.ref x0), some (.int x1), none] [] σ (f_Ps_fits_j68 σ F x1 k27) (am_kPI σ) := by
  unfold f_Ps_fits_j68
  refine aw_iinc 1 1 (v := 1) (kk := ?_)
  refine aw_goto (-44) 27 (kk := ?_)
  exact am_W.drop [true, true, false] (h27 (x1 + 1))
def f_Ps_fits_l27 (σ : am_S) (F : Nat) (x0 : Nat)  : Nat → Int32 → Option (Int32)
  | 0, _ => none
  | n + 1, x1 =>
    (am_gI σ 11 4 x0).bind fun v4 =>
    if v4 ≤ x1 then
      some 1
    else
      f_Ps_fits_l37 σ F x0 x1 (f_Ps_fits_j68 σ F x1 (fun y1 => f_Ps_fits_l27 σ F x0 n y1)) F 0
theorem b_Ps_fits_l27 {g : am_G} {σ0 σ : am_S} (F : Nat) (x0 : Nat)   : ∀ (n : Nat) (x1 : Int32), am_W g mx_Ps_fits σ0 27 [some (.ref x0), some (.int x1), none] [] σ (f_Ps_fits_l27 σ F x0 n x1) (am_kPI σ) := by
  intro n
  induction n with
  | zero =>
    intro x1
    rw [f_Ps_fits_l27]
    exact am_W.none
  | succ n ih =>
    intro x1
    rw [f_Ps_fits_l27]
    refine aw_iload_n 1 (kk := ?_)
    refine aw_aload_n 0 (kk := ?_)
    refine aw_gI 11 4 31 (hw := wd_1131) (kk := fun v4 => ?_)
    refine aw_icmp_ge 42 74 (kt := fun _ => ?_) (kf := fun _ => ?_)
    · refine aw_iconst 1 (v := 1) (kk := ?_)
      exact aw_zretPL (by decide)
    · refine aw_iconst 0 (v := 0) (kk := ?_)
      refine aw_istore_n 2 (kk := ?_)
      exact am_W.drop [true, true, true] (b_Ps_fits_l37 F x0 x1 (f_Ps_fits_j68 σ F x1 (fun y1 => f_Ps_fits_l27 σ F x0 n y1)) (am_W.drop [true, true, false] (b_Ps_fits_j68 F x0 x1 (fun y1 => f_Ps_fits_l27 σ F x0 n y1) (fun y1 => am_W.drop [true, true, false] (ih y1)))) F 0)
def f_Ps_fits (F : Nat) (σ : am_S) (x0 : Nat) : Option (Int32) :=
  am_ck σ 11 x0 (
  (am_gI σ 11 4 x0).bind fun v1 =>
  if 400 < v1 then
    some 0
  else
    (am_gA σ 11 0 x0).bind fun v2 =>
    (am_gI σ 12 1 v2).bind fun v3 =>
    if v3 ≤ 8192 then
      f_Ps_fits_l27 σ F x0 F 0
    else
      some 0)
theorem rc_Ps_fits {F : Nat} {σ : am_S} {x0 : Nat} (h : (f_Ps_fits F σ x0).isSome = true) : ∃ fs, σ.2.2 x0 = some (.inr (11, fs)) := am_ck_some h
theorem m_Ps_fits (g : am_G) (F : Nat) (σ : am_S) (x0 : Nat) : am_Met g mx_Ps_fits [.ref x0] σ ((f_Ps_fits F σ x0).bind (am_kPI σ)) := by
  refine am_Met.of (lv := [some (.ref x0), none, none]) (am_cc rfl am_c0) (Nat.le_of_ble_eq_true rfl) rfl (by decide) ?_
  unfold f_Ps_fits
  refine am_W.ck ?_
  refine aw_aload_n 0 (kk := ?_)
  refine aw_gI 11 4 31 (hw := wd_1131) (kk := fun v1 => ?_)
  refine aw_sipush 400 (v := 400) (kk := ?_)
  refine aw_icmp_gt 16 23 (kt := fun _ => ?_) (kf := fun _ => ?_)
  · refine aw_iconst 0 (v := 0) (kk := ?_)
    exact aw_zretPL (by decide)
  · refine aw_aload_n 0 (kk := ?_)
    refine aw_gA 11 0 14 (hw := wd_1123) (kk := fun v2 => ?_)
    refine aw_gI 12 1 42 (hw := wd_1117) (kk := fun v3 => ?_)
    refine aw_sipush 8192 (v := 8192) (kk := ?_)
    refine aw_icmp_le 5 25 (kt := fun _ => ?_) (kf := fun _ => ?_)
    · refine aw_iconst 0 (v := 0) (kk := ?_)
      refine aw_istore_n 1 (kk := ?_)
      exact am_W.drop [true, true, false] (b_Ps_fits_l27 F x0 F 0)
    · refine aw_iconst 0 (v := 0) (kk := ?_)
      exact aw_zretPL (by decide)
def f_Ps_init (F : Nat) (σ : am_S) (x0 : Nat) : Option (am_S) :=
  am_ck σ 11 x0 (
  (f_Ro_init F (am_no σ 12) σ.1 1024).bind fun σ1 =>
  (am_pA σ1 11 0 x0 σ.1).bind fun σ2 =>
  am_b2 (am_na σ2 .int 1700) fun a3 σ4 =>
  (am_pA σ4 11 1 x0 a3).bind fun σ5 =>
  am_b2 (am_na σ5 .int 5100) fun a6 σ7 =>
  (am_pA σ7 11 2 x0 a6).bind fun σ8 =>
  am_b2 (am_na σ8 .boolean 1700) fun a9 σ10 =>
  (am_pA σ10 11 3 x0 a9).bind fun σ11 =>
  some σ11)
theorem rc_Ps_init {F : Nat} {σ : am_S} {x0 : Nat} (h : (f_Ps_init F σ x0).isSome = true) : ∃ fs, σ.2.2 x0 = some (.inr (11, fs)) := am_ck_some h
theorem m_Ps_init (g : am_G) (F : Nat) (σ : am_S) (x0 : Nat) : am_Met g mx_Ps_init [.ref x0] σ ((f_Ps_init F σ x0).bind am_kV) := by
  refine am_Met.of (lv := [some (.ref x0)]) (am_cc rfl am_c0) (Nat.le_of_ble_eq_true rfl) rfl (by decide) ?_
  unfold f_Ps_init
  refine am_W.ck ?_
  refine aw_aload_n 0 (kk := ?_)
  refine aw_obj 3 (hw := wd_1106) (hw2 := wd_33) (hw3 := wd_34) (hr := Nat.le_of_ble_eq_true rfl) (kk := ?_)
  refine aw_aload_n 0 (kk := ?_)
  refine aw_new 12 9 (hw := wd_1107) (hw2 := wd_1108) (hw3 := wd_13) (kk := ?_)
  refine aw_dup (kk := ?_)
  refine aw_sipush 1024 (v := 1024) (kk := ?_)
  refine ac_V (st := [.ref σ.1, .ref x0]) [.ref σ.1, .int 1024] (ag_I 11 wd_1109 cal_Ro_init wd_1110) cal_Ro_init ⟨by decide, by decide⟩ (Nat.le_of_ble_eq_true rfl) (m_Ro_init g F (am_no σ 12) σ.1 1024) (fun σ1 => ?_)
  refine aw_pAF 11 0 14 (hw := wd_1123) (kk := fun σ2 => ?_)
  refine aw_aload_n 0 (kk := ?_)
  refine aw_sipush 1700 (v := 1700) (kk := ?_)
  refine aw_na2 .int (hw := wd_55) (kk := fun a3 σ4 => ?_)
  refine aw_pAF 11 1 20 (hw := wd_1125) (kk := fun σ5 => ?_)
  refine aw_aload_n 0 (kk := ?_)
  refine aw_sipush 5100 (v := 5100) (kk := ?_)
  refine aw_na2 .int (hw := wd_55) (kk := fun a6 σ7 => ?_)
  refine aw_pAF 11 2 24 (hw := wd_1127) (kk := fun σ8 => ?_)
  refine aw_aload_n 0 (kk := ?_)
  refine aw_sipush 1700 (v := 1700) (kk := ?_)
  refine aw_na2 .boolean (hw := wd_96) (kk := fun a9 σ10 => ?_)
  refine aw_pAF 11 3 27 (hw := wd_1129) (kk := fun σ11 => ?_)
  exact aw_vret
def f_Ps_compareb_l9 (σ : am_S) (F : Nat) (x0 : Nat) (x1 : Int32) (x2 : Nat) (x3 : Int32)  : Nat → Int32 → Option (Int32)
  | 0, _ => none
  | n + 1, x4 =>
    if x3 ≤ x4 then
      (am_gI σ 12 1 x2).bind fun v2 =>
      some (x3 - v2)
    else
      (am_gI σ 12 1 x2).bind fun v3 =>
      if v3 ≤ x4 then
        (am_gI σ 12 1 x2).bind fun v4 =>
        some (x3 - v4)
      else
        (am_gA σ 11 0 x0).bind fun v5 =>
        (am_gA σ 11 1 x0).bind fun v6 =>
        (am_lI σ .int v6 x1).bind fun v7 =>
        (f_Ro_get F σ v5 (v7 + x4)).bind fun v8 =>
        (f_Ro_get F σ x2 x4).bind fun v9 =>
        if v8 = v9 then
          f_Ps_compareb_l9 σ F x0 x1 x2 x3 n (x4 + 1)
        else
          some (v8 - v9)
theorem b_Ps_compareb_l9 {g : am_G} {σ0 σ : am_S} (F : Nat) (x0 : Nat) (x1 : Int32) (x2 : Nat) (x3 : Int32)   : ∀ (n : Nat) (x4 : Int32), am_W g mx_Ps_compareb σ0 9 [some (.ref x0), some (.int x1), some (.ref x2), some (.int x3), some (.int x4), none, none] [] σ (f_Ps_compareb_l9 σ F x0 x1 x2 x3 n x4) (am_kPI σ) := by
  intro n
  induction n with
  | zero =>
    intro x4
    rw [f_Ps_compareb_l9]
    exact am_W.none
  | succ n ih =>
    intro x4
    rw [f_Ps_compareb_l9]
    refine aw_iload 4 (kk := ?_)
    refine aw_iload_n 3 (kk := ?_)
    refine aw_icmp_ge 57 69 (kt := fun _ => ?_) (kf := fun _ => ?_)
    · refine aw_iload_n 3 (kk := ?_)
      refine aw_aload_n 2 (kk := ?_)
      refine aw_gI 12 1 42 (hw := wd_1117) (kk := fun v2 => ?_)
      refine aw_isub (kk := ?_)
      exact aw_iretP
    · refine aw_iload 4 (kk := ?_)
      refine aw_aload_n 2 (kk := ?_)
      refine aw_gI 12 1 42 (hw := wd_1117) (kk := fun v3 => ?_)
      refine aw_icmp_ge 48 69 (kt := fun _ => ?_) (kf := fun _ => ?_)
      · refine aw_iload_n 3 (kk := ?_)
        refine aw_aload_n 2 (kk := ?_)
        refine aw_gI 12 1 42 (hw := wd_1117) (kk := fun v4 => ?_)
        refine aw_isub (kk := ?_)
        exact aw_iretP
      · refine aw_aload_n 0 (kk := ?_)
        refine aw_gA 11 0 14 (hw := wd_1123) (kk := fun v5 => ?_)
        refine aw_aload_n 0 (kk := ?_)
        refine aw_gA 11 1 20 (hw := wd_1125) (kk := fun v6 => ?_)
        refine aw_iload_n 1 (kk := ?_)
        refine aw_lI (kk := fun v7 => ?_)
        refine aw_iload 4 (kk := ?_)
        refine aw_iadd (kk := ?_)
        refine ac_PI (st := []) [.ref v5, .int (v7 + x4)] (ag_V 47 12 rc_Ro_get wd_1361 cal_Ro_get wd_1336 wd_1337) cal_Ro_get ⟨by decide, by decide⟩ (Nat.le_of_ble_eq_true rfl) (m_Ro_get g F σ v5 (v7 + x4)) (fun v8 => ?_)
        refine aw_istore 5 (kk := ?_)
        refine aw_aload_n 2 (kk := ?_)
        refine aw_iload 4 (kk := ?_)
        refine ac_PI (st := []) [.ref x2, .int x4] (ag_V 47 12 rc_Ro_get wd_1361 cal_Ro_get wd_1336 wd_1337) cal_Ro_get ⟨by decide, by decide⟩ (Nat.le_of_ble_eq_true rfl) (m_Ro_get g F σ x2 x4) (fun v9 => ?_)
        refine aw_istore 6 (kk := ?_)
        refine aw_iload 5 (kk := ?_)
        refine aw_iload 6 (kk := ?_)
        refine aw_icmp_eq 9 63 (kt := fun _ => ?_) (kf := fun _ => ?_)
        · refine aw_iinc 4 1 (v := 1) (kk := ?_)
          refine aw_goto (-57) 9 (kk := ?_)
          exact am_W.drop [true, true, true, true, true, false, false] (ih (x4 + 1))
        · refine aw_iload 5 (kk := ?_)
          refine aw_iload 6 (kk := ?_)
          refine aw_isub (kk := ?_)
          exact aw_iretP
def f_Ps_compareb (F : Nat) (σ : am_S) (x0 : Nat) (x1 : Int32) (x2 : Nat) : Option (Int32) :=
  am_ck σ 11 x0 (
  (f_Ps_length F σ x0 x1).bind fun v1 =>
  f_Ps_compareb_l9 σ F x0 x1 x2 v1 F 0)
theorem rc_Ps_compareb {F : Nat} {σ : am_S} {x0 : Nat} {x1 : Int32} {x2 : Nat} (h : (f_Ps_compareb F σ x0 x1 x2).isSome = true) : ∃ fs, σ.2.2 x0 = some (.inr (11, fs)) := am_ck_some h
theorem m_Ps_compareb (g : am_G) (F : Nat) (σ : am_S) (x0 : Nat) (x1 : Int32) (x2 : Nat) : am_Met g mx_Ps_compareb [.ref x0, .int x1, .ref x2] σ ((f_Ps_compareb F σ x0 x1 x2).bind (am_kPI σ)) := by
  refine am_Met.of (lv := [some (.ref x0), some (.int x1), some (.ref x2), none, none, none, none]) (am_cc rfl (am_cc rfl (am_cc rfl am_c0))) (Nat.le_of_ble_eq_true rfl) rfl (by decide) ?_
  unfold f_Ps_compareb
  refine am_W.ck ?_
  refine aw_aload_n 0 (kk := ?_)
  refine aw_iload_n 1 (kk := ?_)
  refine ac_PI (st := []) [.ref x0, .int x1] (ag_V 43 11 rc_Ps_length wd_1357 cal_Ps_length wd_1358 wd_1359) cal_Ps_length ⟨by decide, by decide⟩ (Nat.le_of_ble_eq_true rfl) (m_Ps_length g F σ x0 x1) (fun v1 => ?_)
  refine aw_istore_n 3 (kk := ?_)
  refine aw_iconst 0 (v := 0) (kk := ?_)
  refine aw_istore 4 (kk := ?_)
  exact am_W.drop [true, true, true, true, true, false, false] (b_Ps_compareb_l9 F x0 x1 x2 v1 F 0)
def f_Ps_set_l6 (F : Nat) (x0 : Nat) (x1 : Nat)  : Nat → Int32 → am_S → Option (am_S)
  | 0, _, _ => none
  | n + 1, x2, σ =>
    (am_gI σ 11 4 x1).bind fun v2 =>
    if v2 ≤ x2 then
      some σ
    else
      (f_Ps_take F σ x0 x1 x2).bind fun σ3 =>
      f_Ps_set_l6 F x0 x1 n (x2 + 1) σ3
theorem b_Ps_set_l6 {g : am_G} {σ0 : am_S} (F : Nat) (x0 : Nat) (x1 : Nat)   : ∀ (n : Nat) (x2 : Int32) (σ : am_S), am_W g mx_Ps_set σ0 6 [some (.ref x0), some (.ref x1), some (.int x2)] [] σ (f_Ps_set_l6 F x0 x1 n x2 σ) am_kV := by
  intro n
  induction n with
  | zero =>
    intro x2 σ
    rw [f_Ps_set_l6]
    exact am_W.none
  | succ n ih =>
    intro x2 σ
    rw [f_Ps_set_l6]
    refine aw_iload_n 2 (kk := ?_)
    refine aw_aload_n 1 (kk := ?_)
    refine aw_gI 11 4 31 (hw := wd_1131) (kk := fun v2 => ?_)
    refine aw_icmp_ge 15 26 (kt := fun _ => ?_) (kf := fun _ => ?_)
    · exact aw_vret
    · refine aw_aload_n 0 (kk := ?_)
      refine aw_aload_n 1 (kk := ?_)
      refine aw_iload_n 2 (kk := ?_)
      refine ac_V (st := []) [.ref x0, .ref x1, .int x2] (ag_V 65 11 rc_Ps_take wd_1391 cal_Ps_take wd_1363 wd_1364) cal_Ps_take ⟨by decide, by decide⟩ (Nat.le_of_ble_eq_true rfl) (m_Ps_take g F σ x0 x1 x2) (fun σ3 => ?_)
      refine aw_iinc 2 1 (v := 1) (kk := ?_)
      refine aw_goto (-17) 6 (kk := ?_)
      exact am_W.drop [true, true, true] (ih (x2 + 1) σ3)
def f_Ps_set (F : Nat) (σ : am_S) (x0 : Nat) (x1 : Nat) : Option (am_S) :=
  am_ck σ 11 x0 (
  (f_Ps_clear F σ x0).bind fun σ1 =>
  f_Ps_set_l6 F x0 x1 F 0 σ1)
theorem rc_Ps_set {F : Nat} {σ : am_S} {x0 : Nat} {x1 : Nat} (h : (f_Ps_set F σ x0 x1).isSome = true) : ∃ fs, σ.2.2 x0 = some (.inr (11, fs)) := am_ck_some h
theorem m_Ps_set (g : am_G) (F : Nat) (σ : am_S) (x0 : Nat) (x1 : Nat) : am_Met g mx_Ps_set [.ref x0, .ref x1] σ ((f_Ps_set F σ x0 x1).bind am_kV) := by
  refine am_Met.of (lv := [some (.ref x0), some (.ref x1), none]) (am_cc rfl (am_cc rfl am_c0)) (Nat.le_of_ble_eq_true rfl) rfl (by decide) ?_
  unfold f_Ps_set
  refine am_W.ck ?_
  refine aw_aload_n 0 (kk := ?_)
  refine ac_V (st := []) [.ref x0] (ag_V 64 11 rc_Ps_clear wd_1390 cal_Ps_clear wd_1148 wd_1149) cal_Ps_clear ⟨by decide, by decide⟩ (Nat.le_of_ble_eq_true rfl) (m_Ps_clear g F σ x0) (fun σ1 => ?_)
  refine aw_iconst 0 (v := 0) (kk := ?_)
  refine aw_istore_n 2 (kk := ?_)
  exact am_W.drop [true, true, true] (b_Ps_set_l6 F x0 x1 F 0 σ1)
def f_Ps_finda_l2 (σ : am_S) (F : Nat) (x0 : Nat) (x1 : Nat)  : Nat → Int32 → Option (Int32)
  | 0, _ => none
  | n + 1, x2 =>
    (am_gI σ 11 4 x0).bind fun v1 =>
    if v1 ≤ x2 then
      some (-1)
    else
      (f_Ps_compareb F σ x0 x2 x1).bind fun v2 =>
      if v2 = 0 then
        some x2
      else
        f_Ps_finda_l2 σ F x0 x1 n (x2 + 1)
theorem b_Ps_finda_l2 {g : am_G} {σ0 σ : am_S} (F : Nat) (x0 : Nat) (x1 : Nat)   : ∀ (n : Nat) (x2 : Int32), am_W g mx_Ps_finda σ0 2 [some (.ref x0), some (.ref x1), some (.int x2)] [] σ (f_Ps_finda_l2 σ F x0 x1 n x2) (am_kPI σ) := by
  intro n
  induction n with
  | zero =>
    intro x2
    rw [f_Ps_finda_l2]
    exact am_W.none
  | succ n ih =>
    intro x2
    rw [f_Ps_finda_l2]
    refine aw_iload_n 2 (kk := ?_)
    refine aw_aload_n 0 (kk := ?_)
    refine aw_gI 11 4 31 (hw := wd_1131) (kk := fun v1 => ?_)
    refine aw_icmp_ge 20 27 (kt := fun _ => ?_) (kf := fun _ => ?_)
    · refine aw_iconst (-1) (v := (-1)) (kk := ?_)
      exact aw_iretP
    · refine aw_aload_n 0 (kk := ?_)
      refine aw_iload_n 2 (kk := ?_)
      refine aw_aload_n 1 (kk := ?_)
      refine ac_PI (st := []) [.ref x0, .int x2, .ref x1] (ag_V 50 11 rc_Ps_compareb wd_1400 cal_Ps_compareb wd_1354 wd_1355) cal_Ps_compareb ⟨by decide, by decide⟩ (Nat.le_of_ble_eq_true rfl) (m_Ps_compareb g F σ x0 x2 x1) (fun v2 => ?_)
      refine aw_if_ne 5 21 (kt := fun _ => ?_) (kf := fun _ => ?_)
      · refine aw_iinc 2 1 (v := 1) (kk := ?_)
        refine aw_goto (-22) 2 (kk := ?_)
        exact am_W.drop [true, true, true] (ih (x2 + 1))
      · refine aw_iload_n 2 (kk := ?_)
        exact aw_iretP
def f_Ps_finda (F : Nat) (σ : am_S) (x0 : Nat) (x1 : Nat) : Option (Int32) :=
  am_ck σ 11 x0 (
  f_Ps_finda_l2 σ F x0 x1 F 0)
theorem rc_Ps_finda {F : Nat} {σ : am_S} {x0 : Nat} {x1 : Nat} (h : (f_Ps_finda F σ x0 x1).isSome = true) : ∃ fs, σ.2.2 x0 = some (.inr (11, fs)) := am_ck_some h
theorem m_Ps_finda (g : am_G) (F : Nat) (σ : am_S) (x0 : Nat) (x1 : Nat) : am_Met g mx_Ps_finda [.ref x0, .ref x1] σ ((f_Ps_finda F σ x0 x1).bind (am_kPI σ)) := by
  refine am_Met.of (lv := [some (.ref x0), some (.ref x1), none]) (am_cc rfl (am_cc rfl am_c0)) (Nat.le_of_ble_eq_true rfl) rfl (by decide) ?_
  unfold f_Ps_finda
  refine am_W.ck ?_
  refine aw_iconst 0 (v := 0) (kk := ?_)
  refine aw_istore_n 2 (kk := ?_)
  exact am_W.drop [true, true, true] (b_Ps_finda_l2 F x0 x1 F 0)
