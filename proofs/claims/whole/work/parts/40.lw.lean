/-! ===== printed by wip/gen ===== -/
def f_Lw_feed (F : Nat) (σ : am_S) (x0 : Nat) (x1 : Int32) (x2 : Int32) (x3 : Int32) (x4 : Int32) (x5 : Int32) : Option (Int32 × am_S) :=
  am_bt (f_MM_feed F σ x0 x1 x2 x3 x4 x5) (fun a1 σ2 => if am_isx σ2 14 a1 = true then
      some (1, σ2)
    else none) fun _ σ4 =>
  some (0, σ4)
theorem m_Lw_feed (g : am_G) (F : Nat) (σ : am_S) (x0 : Nat) (x1 : Int32) (x2 : Int32) (x3 : Int32) (x4 : Int32) (x5 : Int32) : am_Met g mx_Lw_feed [.ref x0, .int x1, .int x2, .int x3, .int x4, .int x5] σ ((f_Lw_feed F σ x0 x1 x2 x3 x4 x5).bind am_kI) := by
  refine am_Met.of (lv := [some (.ref x0), some (.int x1), some (.int x2), some (.int x3), some (.int x4), some (.int x5), none]) (am_cc rfl (am_cc rfl (am_cc rfl (am_cc rfl (am_cc rfl (am_cc rfl am_c0)))))) (Nat.le_of_ble_eq_true rfl) rfl (by decide) ?_
  unfold f_Lw_feed
  refine aw_aload_n 0 (kk := ?_)
  refine aw_iload_n 1 (kk := ?_)
  refine aw_iload_n 2 (kk := ?_)
  refine aw_iload_n 3 (kk := ?_)
  refine aw_iload 4 (kk := ?_)
  refine aw_iload 5 (kk := ?_)
  refine ac_TV (st := []) [.ref x0, .int x1, .int x2, .int x3, .int x4, .int x5] (ag_V 7 0 rc_MM_feed wd_388 cal_MM_feed wd_389 wd_390) cal_MM_feed ⟨by decide, by decide⟩ (Nat.le_of_ble_eq_true rfl) (m_MM_feed g F σ x0 x1 x2 x3 x4 x5) (fun a1 σ2 => ?_) (fun σ4 => ?_)
  · refine at_c1 14 (hw := wd_387) (kk := ?_)
    refine aw_astore 6 (kk := ?_)
    refine aw_iconst 1 (v := 1) (kk := ?_)
    exact aw_iret
  refine aw_goto 7 18 (kk := ?_)
  refine aw_iconst 0 (v := 0) (kk := ?_)
  exact aw_iret
def f_Lw_end (F : Nat) (σ : am_S) (x0 : Nat) (x1 : Int32) (x2 : Nat) : Option (Int32 × am_S) :=
  am_bt (f_MM_end F σ x0 x1) (fun a1 σ2 => if am_isx σ2 13 a1 = true then
      some (1, σ2)
    else none) fun v3 σ4 =>
  (am_sL σ4 x2 0 ((v3).toInt64)).bind fun σ5 =>
  some (0, σ5)
theorem m_Lw_end (g : am_G) (F : Nat) (σ : am_S) (x0 : Nat) (x1 : Int32) (x2 : Nat) : am_Met g mx_Lw_end [.ref x0, .int x1, .ref x2] σ ((f_Lw_end F σ x0 x1 x2).bind am_kI) := by
  refine am_Met.of (lv := [some (.ref x0), some (.int x1), some (.ref x2), none]) (am_cc rfl (am_cc rfl (am_cc rfl am_c0))) (Nat.le_of_ble_eq_true rfl) rfl (by decide) ?_
  unfold f_Lw_end
  refine aw_aload_n 2 (kk := ?_)
  refine aw_iconst 0 (v := 0) (kk := ?_)
  refine aw_aload_n 0 (kk := ?_)
  refine aw_iload_n 1 (kk := ?_)
  refine ac_TI (st := [.int 0, .ref x2]) [.ref x0, .int x1] (ag_V 15 0 rc_MM_end wd_468 cal_MM_end wd_469 wd_470) cal_MM_end ⟨by decide, by decide⟩ (Nat.le_of_ble_eq_true rfl) (m_MM_end g F σ x0 x1) (fun a1 σ2 => ?_) (fun v3 σ4 => ?_)
  · refine at_c1 13 (hw := wd_467) (kk := ?_)
    refine aw_astore_n 3 (kk := ?_)
    refine aw_iconst 1 (v := 1) (kk := ?_)
    exact aw_iret
  refine aw_i2l (kk := ?_)
  refine aw_sL (kk := fun σ5 => ?_)
  refine aw_goto 6 15 (kk := ?_)
  refine aw_iconst 0 (v := 0) (kk := ?_)
  exact aw_iret
def f_Lw_put (F : Nat) (σ : am_S) (x0 : Nat) (x1 : Int32) (x2 : Nat) : Option (Int32 × am_S) :=
  am_bt (f_MM_put F σ x0 x1) (fun a1 σ2 => if am_isx σ2 13 a1 = true then
      some (1, σ2)
    else if am_isx σ2 14 a1 = true then
      some (2, σ2)
    else none) fun v3 σ4 =>
  (am_sL σ4 x2 0 ((v3).toInt64)).bind fun σ5 =>
  some (0, σ5)
theorem m_Lw_put (g : am_G) (F : Nat) (σ : am_S) (x0 : Nat) (x1 : Int32) (x2 : Nat) : am_Met g mx_Lw_put [.ref x0, .int x1, .ref x2] σ ((f_Lw_put F σ x0 x1 x2).bind am_kI) := by
  refine am_Met.of (lv := [some (.ref x0), some (.int x1), some (.ref x2), none]) (am_cc rfl (am_cc rfl (am_cc rfl am_c0))) (Nat.le_of_ble_eq_true rfl) rfl (by decide) ?_
  unfold f_Lw_put
  refine aw_aload_n 2 (kk := ?_)
  refine aw_iconst 0 (v := 0) (kk := ?_)
  refine aw_aload_n 0 (kk := ?_)
  refine aw_iload_n 1 (kk := ?_)
  refine ac_TI (st := [.int 0, .ref x2]) [.ref x0, .int x1] (ag_V 21 0 rc_MM_put wd_509 cal_MM_put wd_510 wd_511) cal_MM_put ⟨by decide, by decide⟩ (Nat.le_of_ble_eq_true rfl) (m_MM_put g F σ x0 x1) (fun a1 σ2 => ?_) (fun v3 σ4 => ?_)
  · refine at_c2 13 14 (hw := wd_467) (hw' := wd_387) (hno := fun h => h.2.2.2.1.1) (kk := ?_) (kk' := ?_)
    · refine aw_astore_n 3 (kk := ?_)
      refine aw_iconst 1 (v := 1) (kk := ?_)
      exact aw_iret
    · refine aw_astore_n 3 (kk := ?_)
      refine aw_iconst 2 (v := 2) (kk := ?_)
      exact aw_iret
  refine aw_i2l (kk := ?_)
  refine aw_sL (kk := fun σ5 => ?_)
  refine aw_goto 9 18 (kk := ?_)
  refine aw_iconst 0 (v := 0) (kk := ?_)
  exact aw_iret
def f_Lw_drop (F : Nat) (σ : am_S) (x0 : Nat) (x1 : Int32) : Option (Int32 × am_S) :=
  am_bt (f_MM_drop F σ x0 x1) (fun a1 σ2 => if am_isx σ2 13 a1 = true then
      some (1, σ2)
    else if am_isx σ2 15 a1 = true then
      some (2, σ2)
    else none) fun _ σ4 =>
  some (0, σ4)
theorem m_Lw_drop (g : am_G) (F : Nat) (σ : am_S) (x0 : Nat) (x1 : Int32) : am_Met g mx_Lw_drop [.ref x0, .int x1] σ ((f_Lw_drop F σ x0 x1).bind am_kI) := by
  refine am_Met.of (lv := [some (.ref x0), some (.int x1), none]) (am_cc rfl (am_cc rfl am_c0)) (Nat.le_of_ble_eq_true rfl) rfl (by decide) ?_
  unfold f_Lw_drop
  refine aw_aload_n 0 (kk := ?_)
  refine aw_iload_n 1 (kk := ?_)
  refine ac_TV (st := []) [.ref x0, .int x1] (ag_V 24 0 rc_MM_drop wd_659 cal_MM_drop wd_660 wd_661) cal_MM_drop ⟨by decide, by decide⟩ (Nat.le_of_ble_eq_true rfl) (m_MM_drop g F σ x0 x1) (fun a1 σ2 => ?_) (fun σ4 => ?_)
  · refine at_c2 13 15 (hw := wd_467) (hw' := wd_658) (hno := fun h => h.2.2.2.1.2) (kk := ?_) (kk' := ?_)
    · refine aw_astore_n 2 (kk := ?_)
      refine aw_iconst 1 (v := 1) (kk := ?_)
      exact aw_iret
    · refine aw_astore_n 2 (kk := ?_)
      refine aw_iconst 2 (v := 2) (kk := ?_)
      exact aw_iret
  refine aw_goto 9 14 (kk := ?_)
  refine aw_iconst 0 (v := 0) (kk := ?_)
  exact aw_iret
def f_Lw_copy (F : Nat) (σ : am_S) (x0 : Nat) (x1 : Int32) (x2 : Int32) : Option (Int32 × am_S) :=
  am_bt (f_MM_copy F σ x0 x1 x2) (fun a1 σ2 => if am_isx σ2 13 a1 = true then
      some (1, σ2)
    else none) fun _ σ4 =>
  some (0, σ4)
theorem m_Lw_copy (g : am_G) (F : Nat) (σ : am_S) (x0 : Nat) (x1 : Int32) (x2 : Int32) : am_Met g mx_Lw_copy [.ref x0, .int x1, .int x2] σ ((f_Lw_copy F σ x0 x1 x2).bind am_kI) := by
  refine am_Met.of (lv := [some (.ref x0), some (.int x1), some (.int x2), none]) (am_cc rfl (am_cc rfl (am_cc rfl am_c0))) (Nat.le_of_ble_eq_true rfl) rfl (by decide) ?_
  unfold f_Lw_copy
  refine aw_aload_n 0 (kk := ?_)
  refine aw_iload_n 1 (kk := ?_)
  refine aw_iload_n 2 (kk := ?_)
  refine ac_TV (st := []) [.ref x0, .int x1, .int x2] (ag_V 30 0 rc_MM_copy wd_675 cal_MM_copy wd_676 wd_677) cal_MM_copy ⟨by decide, by decide⟩ (Nat.le_of_ble_eq_true rfl) (m_MM_copy g F σ x0 x1 x2) (fun a1 σ2 => ?_) (fun σ4 => ?_)
  · refine at_c1 13 (hw := wd_467) (kk := ?_)
    refine aw_astore_n 3 (kk := ?_)
    refine aw_iconst 1 (v := 1) (kk := ?_)
    exact aw_iret
  refine aw_goto 6 12 (kk := ?_)
  refine aw_iconst 0 (v := 0) (kk := ?_)
  exact aw_iret
def f_Lw_merge (F : Nat) (σ : am_S) (x0 : Nat) (x1 : Nat) : Option (Int32 × am_S) :=
  am_bt (f_MM_merge F σ x0) (fun a1 σ2 => if am_isx σ2 13 a1 = true then
      some (1, σ2)
    else if am_isx σ2 14 a1 = true then
      some (2, σ2)
    else none) fun v3 σ4 =>
  (am_sL σ4 x1 0 ((v3).toInt64)).bind fun σ5 =>
  some (0, σ5)
theorem m_Lw_merge (g : am_G) (F : Nat) (σ : am_S) (x0 : Nat) (x1 : Nat) : am_Met g mx_Lw_merge [.ref x0, .ref x1] σ ((f_Lw_merge F σ x0 x1).bind am_kI) := by
  refine am_Met.of (lv := [some (.ref x0), some (.ref x1), none]) (am_cc rfl (am_cc rfl am_c0)) (Nat.le_of_ble_eq_true rfl) rfl (by decide) ?_
  unfold f_Lw_merge
  refine aw_aload_n 1 (kk := ?_)
  refine aw_iconst 0 (v := 0) (kk := ?_)
  refine aw_aload_n 0 (kk := ?_)
  refine ac_TI (st := [.int 0, .ref x1]) [.ref x0] (ag_V 34 0 rc_MM_merge wd_686 cal_MM_merge wd_687 wd_688) cal_MM_merge ⟨by decide, by decide⟩ (Nat.le_of_ble_eq_true rfl) (m_MM_merge g F σ x0) (fun a1 σ2 => ?_) (fun v3 σ4 => ?_)
  · refine at_c2 13 14 (hw := wd_467) (hw' := wd_387) (hno := fun h => h.2.2.2.1.1) (kk := ?_) (kk' := ?_)
    · refine aw_astore_n 2 (kk := ?_)
      refine aw_iconst 1 (v := 1) (kk := ?_)
      exact aw_iret
    · refine aw_astore_n 2 (kk := ?_)
      refine aw_iconst 2 (v := 2) (kk := ?_)
      exact aw_iret
  refine aw_i2l (kk := ?_)
  refine aw_sL (kk := fun σ5 => ?_)
  refine aw_goto 9 17 (kk := ?_)
  refine aw_iconst 0 (v := 0) (kk := ?_)
  exact aw_iret
def f_Lw_renamed (F : Nat) (σ : am_S) (x0 : Nat) (x1 : Int32) (x2 : Int32) (x3 : Int32) (x4 : Int32) (x5 : Nat) : Option (Int32 × am_S) :=
  am_bt (f_MM_renamed F σ x0 x1 x2 x3 x4) (fun a1 σ2 => if am_isx σ2 13 a1 = true then
      some (1, σ2)
    else if am_isx σ2 15 a1 = true then
      some (2, σ2)
    else none) fun v3 σ4 =>
  (am_sL σ4 x5 0 ((v3).toInt64)).bind fun σ5 =>
  some (0, σ5)
theorem m_Lw_renamed (g : am_G) (F : Nat) (σ : am_S) (x0 : Nat) (x1 : Int32) (x2 : Int32) (x3 : Int32) (x4 : Int32) (x5 : Nat) : am_Met g mx_Lw_renamed [.ref x0, .int x1, .int x2, .int x3, .int x4, .ref x5] σ ((f_Lw_renamed F σ x0 x1 x2 x3 x4 x5).bind am_kI) := by
  refine am_Met.of (lv := [some (.ref x0), some (.int x1), some (.int x2), some (.int x3), some (.int x4), some (.ref x5), none]) (am_cc rfl (am_cc rfl (am_cc rfl (am_cc rfl (am_cc rfl (am_cc rfl am_c0)))))) (Nat.le_of_ble_eq_true rfl) rfl (by decide) ?_
  unfold f_Lw_renamed
  refine aw_aload 5 (kk := ?_)
  refine aw_iconst 0 (v := 0) (kk := ?_)
  refine aw_aload_n 0 (kk := ?_)
  refine aw_iload_n 1 (kk := ?_)
  refine aw_iload_n 2 (kk := ?_)
  refine aw_iload_n 3 (kk := ?_)
  refine aw_iload 4 (kk := ?_)
  refine ac_TI (st := [.int 0, .ref x5]) [.ref x0, .int x1, .int x2, .int x3, .int x4] (ag_V 38 0 rc_MM_renamed wd_1011 cal_MM_renamed wd_1012 wd_1013) cal_MM_renamed ⟨by decide, by decide⟩ (Nat.le_of_ble_eq_true rfl) (m_MM_renamed g F σ x0 x1 x2 x3 x4) (fun a1 σ2 => ?_) (fun v3 σ4 => ?_)
  · refine at_c2 13 15 (hw := wd_467) (hw' := wd_658) (hno := fun h => h.2.2.2.1.2) (kk := ?_) (kk' := ?_)
    · refine aw_astore 6 (kk := ?_)
      refine aw_iconst 1 (v := 1) (kk := ?_)
      exact aw_iret
    · refine aw_astore 6 (kk := ?_)
      refine aw_iconst 2 (v := 2) (kk := ?_)
      exact aw_iret
  refine aw_i2l (kk := ?_)
  refine aw_sL (kk := fun σ5 => ?_)
  refine aw_goto 11 25 (kk := ?_)
  refine aw_iconst 0 (v := 0) (kk := ?_)
  exact aw_iret
def f_Lw_outcome (F : Nat) (σ : am_S) (x0 : Nat) (x1 : Int32) (x2 : Int32) (x3 : Nat) : Option (Int32 × am_S) :=
  am_bt (f_MM_outcome F σ x0 x1 x2) (fun a1 σ2 => if am_isx σ2 13 a1 = true then
      some (1, σ2)
    else if am_isx σ2 15 a1 = true then
      some (2, σ2)
    else none) fun v3 σ4 =>
  (am_sL σ4 x3 0 ((v3).toInt64)).bind fun σ5 =>
  some (0, σ5)
theorem m_Lw_outcome (g : am_G) (F : Nat) (σ : am_S) (x0 : Nat) (x1 : Int32) (x2 : Int32) (x3 : Nat) : am_Met g mx_Lw_outcome [.ref x0, .int x1, .int x2, .ref x3] σ ((f_Lw_outcome F σ x0 x1 x2 x3).bind am_kI) := by
  refine am_Met.of (lv := [some (.ref x0), some (.int x1), some (.int x2), some (.ref x3), none]) (am_cc rfl (am_cc rfl (am_cc rfl (am_cc rfl am_c0)))) (Nat.le_of_ble_eq_true rfl) rfl (by decide) ?_
  unfold f_Lw_outcome
  refine aw_aload_n 3 (kk := ?_)
  refine aw_iconst 0 (v := 0) (kk := ?_)
  refine aw_aload_n 0 (kk := ?_)
  refine aw_iload_n 1 (kk := ?_)
  refine aw_iload_n 2 (kk := ?_)
  refine ac_TI (st := [.int 0, .ref x3]) [.ref x0, .int x1, .int x2] (ag_V 42 0 rc_MM_outcome wd_1028 cal_MM_outcome wd_1029 wd_1030) cal_MM_outcome ⟨by decide, by decide⟩ (Nat.le_of_ble_eq_true rfl) (m_MM_outcome g F σ x0 x1 x2) (fun a1 σ2 => ?_) (fun v3 σ4 => ?_)
  · refine at_c2 13 15 (hw := wd_467) (hw' := wd_658) (hno := fun h => h.2.2.2.1.2) (kk := ?_) (kk' := ?_)
    · refine aw_astore 4 (kk := ?_)
      refine aw_iconst 1 (v := 1) (kk := ?_)
      exact aw_iret
    · refine aw_astore 4 (kk := ?_)
      refine aw_iconst 2 (v := 2) (kk := ?_)
      exact aw_iret
  refine aw_i2l (kk := ?_)
  refine aw_sL (kk := fun σ5 => ?_)
  refine aw_goto 11 21 (kk := ?_)
  refine aw_iconst 0 (v := 0) (kk := ?_)
  exact aw_iret
def f_Lw_letter (F : Nat) (σ : am_S) (x0 : Nat) (x1 : Int32) (x2 : Int32) (x3 : Int32) (x4 : Nat) : Option (Int32 × am_S) :=
  am_bt (f_MM_letter F σ x0 x1 x2 x3) (fun a1 σ2 => if am_isx σ2 13 a1 = true then
      some (1, σ2)
    else if am_isx σ2 15 a1 = true then
      some (2, σ2)
    else none) fun v3 σ4 =>
  (am_sL σ4 x4 0 ((v3).toInt64)).bind fun σ5 =>
  some (0, σ5)
theorem m_Lw_letter (g : am_G) (F : Nat) (σ : am_S) (x0 : Nat) (x1 : Int32) (x2 : Int32) (x3 : Int32) (x4 : Nat) : am_Met g mx_Lw_letter [.ref x0, .int x1, .int x2, .int x3, .ref x4] σ ((f_Lw_letter F σ x0 x1 x2 x3 x4).bind am_kI) := by
  refine am_Met.of (lv := [some (.ref x0), some (.int x1), some (.int x2), some (.int x3), some (.ref x4), none]) (am_cc rfl (am_cc rfl (am_cc rfl (am_cc rfl (am_cc rfl am_c0))))) (Nat.le_of_ble_eq_true rfl) rfl (by decide) ?_
  unfold f_Lw_letter
  refine aw_aload 4 (kk := ?_)
  refine aw_iconst 0 (v := 0) (kk := ?_)
  refine aw_aload_n 0 (kk := ?_)
  refine aw_iload_n 1 (kk := ?_)
  refine aw_iload_n 2 (kk := ?_)
  refine aw_iload_n 3 (kk := ?_)
  refine ac_TI (st := [.int 0, .ref x4]) [.ref x0, .int x1, .int x2, .int x3] (ag_V 46 0 rc_MM_letter wd_1068 cal_MM_letter wd_1069 wd_1070) cal_MM_letter ⟨by decide, by decide⟩ (Nat.le_of_ble_eq_true rfl) (m_MM_letter g F σ x0 x1 x2 x3) (fun a1 σ2 => ?_) (fun v3 σ4 => ?_)
  · refine at_c2 13 15 (hw := wd_467) (hw' := wd_658) (hno := fun h => h.2.2.2.1.2) (kk := ?_) (kk' := ?_)
    · refine aw_astore 5 (kk := ?_)
      refine aw_iconst 1 (v := 1) (kk := ?_)
      exact aw_iret
    · refine aw_astore 5 (kk := ?_)
      refine aw_iconst 2 (v := 2) (kk := ?_)
      exact aw_iret
  refine aw_i2l (kk := ?_)
  refine aw_sL (kk := fun σ5 => ?_)
  refine aw_goto 11 23 (kk := ?_)
  refine aw_iconst 0 (v := 0) (kk := ?_)
  exact aw_iret
def f_Lw_blob (F : Nat) (σ : am_S) (x0 : Nat) (x1 : Int32) (x2 : Int32) (x3 : Nat) : Option (Int32 × am_S) :=
  am_bt (f_MM_blob F σ x0 x1 x2) (fun a1 σ2 => if am_isx σ2 13 a1 = true then
      some (1, σ2)
    else if am_isx σ2 15 a1 = true then
      some (2, σ2)
    else none) fun v3 σ4 =>
  (am_sL σ4 x3 0 ((v3).toInt64)).bind fun σ5 =>
  some (0, σ5)
theorem m_Lw_blob (g : am_G) (F : Nat) (σ : am_S) (x0 : Nat) (x1 : Int32) (x2 : Int32) (x3 : Nat) : am_Met g mx_Lw_blob [.ref x0, .int x1, .int x2, .ref x3] σ ((f_Lw_blob F σ x0 x1 x2 x3).bind am_kI) := by
  refine am_Met.of (lv := [some (.ref x0), some (.int x1), some (.int x2), some (.ref x3), none]) (am_cc rfl (am_cc rfl (am_cc rfl (am_cc rfl am_c0)))) (Nat.le_of_ble_eq_true rfl) rfl (by decide) ?_
  unfold f_Lw_blob
  refine aw_aload_n 3 (kk := ?_)
  refine aw_iconst 0 (v := 0) (kk := ?_)
  refine aw_aload_n 0 (kk := ?_)
  refine aw_iload_n 1 (kk := ?_)
  refine aw_iload_n 2 (kk := ?_)
  refine ac_TI (st := [.int 0, .ref x3]) [.ref x0, .int x1, .int x2] (ag_V 50 0 rc_MM_blob wd_1088 cal_MM_blob wd_1089 wd_1090) cal_MM_blob ⟨by decide, by decide⟩ (Nat.le_of_ble_eq_true rfl) (m_MM_blob g F σ x0 x1 x2) (fun a1 σ2 => ?_) (fun v3 σ4 => ?_)
  · refine at_c2 13 15 (hw := wd_467) (hw' := wd_658) (hno := fun h => h.2.2.2.1.2) (kk := ?_) (kk' := ?_)
    · refine aw_astore 4 (kk := ?_)
      refine aw_iconst 1 (v := 1) (kk := ?_)
      exact aw_iret
    · refine aw_astore 4 (kk := ?_)
      refine aw_iconst 2 (v := 2) (kk := ?_)
      exact aw_iret
  refine aw_i2l (kk := ?_)
  refine aw_sL (kk := fun σ5 => ?_)
  refine aw_goto 11 21 (kk := ?_)
  refine aw_iconst 0 (v := 0) (kk := ?_)
  exact aw_iret
