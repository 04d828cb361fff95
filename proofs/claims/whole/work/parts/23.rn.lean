/-! ===== printed by wip/gen ===== -/
def f_Rn_init (F : Nat) (σ : am_S) (x0 : Nat) (x1 : Nat) : Option (am_S) :=
  am_ck σ 5 x0 (
  am_b2 (am_na σ .int 400) fun a1 σ2 =>
  (am_pA σ2 5 1 x0 a1).bind fun σ3 =>
  am_b2 (am_na σ3 .int 400) fun a4 σ5 =>
  (am_pA σ5 5 2 x0 a4).bind fun σ6 =>
  am_b2 (am_na σ6 .boolean 400) fun a7 σ8 =>
  (am_pA σ8 5 3 x0 a7).bind fun σ9 =>
  am_b2 (am_na σ9 .int 2500) fun a10 σ11 =>
  (am_pA σ11 5 4 x0 a10).bind fun σ12 =>
  am_b2 (am_na σ12 .int 400) fun a13 σ14 =>
  (am_pA σ14 5 5 x0 a13).bind fun σ15 =>
  am_b2 (am_na σ15 .int 400) fun a16 σ17 =>
  (am_pA σ17 5 6 x0 a16).bind fun σ18 =>
  (am_pA σ18 5 0 x0 x1).bind fun σ19 =>
  some σ19)
theorem rc_Rn_init {F : Nat} {σ : am_S} {x0 : Nat} {x1 : Nat} (h : (f_Rn_init F σ x0 x1).isSome = true) : ∃ fs, σ.2.2 x0 = some (.inr (5, fs)) := am_ck_some h
theorem m_Rn_init (g : am_G) (F : Nat) (σ : am_S) (x0 : Nat) (x1 : Nat) : am_Met g mx_Rn_init [.ref x0, .ref x1] σ ((f_Rn_init F σ x0 x1).bind am_kV) := by
  refine am_Met.of (lv := [some (.ref x0), some (.ref x1)]) (am_cc rfl (am_cc rfl am_c0)) (Nat.le_of_ble_eq_true rfl) rfl (by decide) ?_
  unfold f_Rn_init
  refine am_W.ck ?_
  refine aw_aload_n 0 (kk := ?_)
  refine aw_obj 3 (hw := wd_147) (hw2 := wd_33) (hw3 := wd_34) (hr := Nat.le_of_ble_eq_true rfl) (kk := ?_)
  refine aw_aload_n 0 (kk := ?_)
  refine aw_sipush 400 (v := 400) (kk := ?_)
  refine aw_na2 .int (hw := wd_55) (kk := fun a1 σ2 => ?_)
  refine aw_pAF 5 1 9 (hw := wd_149) (kk := fun σ3 => ?_)
  refine aw_aload_n 0 (kk := ?_)
  refine aw_sipush 400 (v := 400) (kk := ?_)
  refine aw_na2 .int (hw := wd_55) (kk := fun a4 σ5 => ?_)
  refine aw_pAF 5 2 15 (hw := wd_150) (kk := fun σ6 => ?_)
  refine aw_aload_n 0 (kk := ?_)
  refine aw_sipush 400 (v := 400) (kk := ?_)
  refine aw_na2 .boolean (hw := wd_96) (kk := fun a7 σ8 => ?_)
  refine aw_pAF 5 3 18 (hw := wd_151) (kk := fun σ9 => ?_)
  refine aw_aload_n 0 (kk := ?_)
  refine aw_sipush 2500 (v := 2500) (kk := ?_)
  refine aw_na2 .int (hw := wd_55) (kk := fun a10 σ11 => ?_)
  refine aw_pAF 5 4 22 (hw := wd_152) (kk := fun σ12 => ?_)
  refine aw_aload_n 0 (kk := ?_)
  refine aw_sipush 400 (v := 400) (kk := ?_)
  refine aw_na2 .int (hw := wd_55) (kk := fun a13 σ14 => ?_)
  refine aw_pAF 5 5 25 (hw := wd_153) (kk := fun σ15 => ?_)
  refine aw_aload_n 0 (kk := ?_)
  refine aw_sipush 400 (v := 400) (kk := ?_)
  refine aw_na2 .int (hw := wd_55) (kk := fun a16 σ17 => ?_)
  refine aw_pAF 5 6 28 (hw := wd_154) (kk := fun σ18 => ?_)
  refine aw_aload_n 0 (kk := ?_)
  refine aw_aload_n 1 (kk := ?_)
  refine aw_pAF 5 0 31 (hw := wd_148) (kk := fun σ19 => ?_)
  exact aw_vret
def f_Rn_compareNext (F : Nat) (σ : am_S) (x0 : Nat) (x1 : Int32) (x2 : Nat) (x3 : Int32) : Option (Int32) :=
  (f_Pm_size F σ x0).bind fun v1 =>
  if x1 < v1 then
    (f_Pm_size F σ x2).bind fun v2 =>
    if x3 < v2 then
      (f_Pm_comparePaths F σ x0 x1 x2 x3).bind fun v3 =>
      some v3
    else
      some (-1)
  else
    some 1
theorem m_Rn_compareNext (g : am_G) (F : Nat) (σ : am_S) (x0 : Nat) (x1 : Int32) (x2 : Nat) (x3 : Int32) : am_Met g mx_Rn_compareNext [.ref x0, .int x1, .ref x2, .int x3] σ ((f_Rn_compareNext F σ x0 x1 x2 x3).bind (am_kPI σ)) := by
  refine am_Met.of (lv := [some (.ref x0), some (.int x1), some (.ref x2), some (.int x3)]) (am_cc rfl (am_cc rfl (am_cc rfl (am_cc rfl am_c0)))) (Nat.le_of_ble_eq_true rfl) rfl (by decide) ?_
  unfold f_Rn_compareNext
  refine aw_iload_n 1 (kk := ?_)
  refine aw_aload_n 0 (kk := ?_)
  refine ac_PI (st := [.int x1]) [.ref x0] (ag_V 55 4 rc_Pm_size wd_702 cal_Pm_size wd_352 wd_353) cal_Pm_size ⟨by decide, by decide⟩ (Nat.le_of_ble_eq_true rfl) (m_Pm_size g F σ x0) (fun v1 => ?_)
  refine aw_icmp_lt 5 10 (kt := fun _ => ?_) (kf := fun _ => ?_)
  · refine aw_iload_n 3 (kk := ?_)
    refine aw_aload_n 2 (kk := ?_)
    refine ac_PI (st := [.int x3]) [.ref x2] (ag_V 55 4 rc_Pm_size wd_702 cal_Pm_size wd_352 wd_353) cal_Pm_size ⟨by decide, by decide⟩ (Nat.le_of_ble_eq_true rfl) (m_Pm_size g F σ x2) (fun v2 => ?_)
    refine aw_icmp_lt 7 22 (kt := fun _ => ?_) (kf := fun _ => ?_)
    · refine aw_aload_n 0 (kk := ?_)
      refine aw_iload_n 1 (kk := ?_)
      refine aw_aload_n 2 (kk := ?_)
      refine aw_iload_n 3 (kk := ?_)
      refine ac_PI (st := []) [.ref x0, .int x1, .ref x2, .int x3] (ag_V 72 4 rc_Pm_comparePaths wd_706 cal_Pm_comparePaths wd_707 wd_708) cal_Pm_comparePaths ⟨by decide, by decide⟩ (Nat.le_of_ble_eq_true rfl) (m_Pm_comparePaths g F σ x0 x1 x2 x3) (fun v3 => ?_)
      exact aw_iretP
    · refine aw_iconst (-1) (v := (-1)) (kk := ?_)
      refine aw_goto 10 29 (kk := ?_)
      exact aw_iretP
  · refine aw_iconst 1 (v := 1) (kk := ?_)
    exact aw_iretP
def f_Rn_addGone (F : Nat) (σ : am_S) (x0 : Nat) (x1 : Int32) : Option (am_S) :=
  am_ck σ 5 x0 (
  (am_gA σ 5 5 x0).bind fun v1 =>
  (am_sI σ v1 x1 (-1)).bind fun σ2 =>
  (am_gA σ2 5 1 x0).bind fun v3 =>
  (am_gI σ2 5 7 x0).bind fun v4 =>
  (am_sI σ2 v3 v4 x1).bind fun σ5 =>
  (am_gI σ5 5 7 x0).bind fun v6 =>
  (am_pI σ5 5 7 x0 (v6 + 1)).bind fun σ7 =>
  some σ7)
theorem rc_Rn_addGone {F : Nat} {σ : am_S} {x0 : Nat} {x1 : Int32} (h : (f_Rn_addGone F σ x0 x1).isSome = true) : ∃ fs, σ.2.2 x0 = some (.inr (5, fs)) := am_ck_some h
theorem m_Rn_addGone (g : am_G) (F : Nat) (σ : am_S) (x0 : Nat) (x1 : Int32) : am_Met g mx_Rn_addGone [.ref x0, .int x1] σ ((f_Rn_addGone F σ x0 x1).bind am_kV) := by
  refine am_Met.of (lv := [some (.ref x0), some (.int x1)]) (am_cc rfl (am_cc rfl am_c0)) (Nat.le_of_ble_eq_true rfl) rfl (by decide) ?_
  unfold f_Rn_addGone
  refine am_W.ck ?_
  refine aw_aload_n 0 (kk := ?_)
  refine aw_gA 5 5 25 (hw := wd_153) (kk := fun v1 => ?_)
  refine aw_iload_n 1 (kk := ?_)
  refine aw_iconst (-1) (v := (-1)) (kk := ?_)
  refine aw_sI (kk := fun σ2 => ?_)
  refine aw_aload_n 0 (kk := ?_)
  refine aw_gA 5 1 9 (hw := wd_149) (kk := fun v3 => ?_)
  refine aw_aload_n 0 (kk := ?_)
  refine aw_gI 5 7 35 (hw := wd_155) (kk := fun v4 => ?_)
  refine aw_iload_n 1 (kk := ?_)
  refine aw_sI (kk := fun σ5 => ?_)
  refine aw_aload_n 0 (kk := ?_)
  refine aw_dup (kk := ?_)
  refine aw_gI 5 7 35 (hw := wd_155) (kk := fun v6 => ?_)
  refine aw_iconst 1 (v := 1) (kk := ?_)
  refine aw_iadd (kk := ?_)
  refine aw_pI 5 7 35 (hw := wd_155) (kk := fun σ7 => ?_)
  exact aw_vret
def f_Rn_addCome (F : Nat) (σ : am_S) (x0 : Nat) (x1 : Int32) : Option (am_S) :=
  am_ck σ 5 x0 (
  (am_gA σ 5 3 x0).bind fun v1 =>
  (am_gI σ 5 8 x0).bind fun v2 =>
  (am_sZ σ v1 v2 0).bind fun σ3 =>
  (am_gA σ3 5 2 x0).bind fun v4 =>
  (am_gI σ3 5 8 x0).bind fun v5 =>
  (am_sI σ3 v4 v5 x1).bind fun σ6 =>
  (am_gI σ6 5 8 x0).bind fun v7 =>
  (am_pI σ6 5 8 x0 (v7 + 1)).bind fun σ8 =>
  some σ8)
theorem rc_Rn_addCome {F : Nat} {σ : am_S} {x0 : Nat} {x1 : Int32} (h : (f_Rn_addCome F σ x0 x1).isSome = true) : ∃ fs, σ.2.2 x0 = some (.inr (5, fs)) := am_ck_some h
theorem m_Rn_addCome (g : am_G) (F : Nat) (σ : am_S) (x0 : Nat) (x1 : Int32) : am_Met g mx_Rn_addCome [.ref x0, .int x1] σ ((f_Rn_addCome F σ x0 x1).bind am_kV) := by
  refine am_Met.of (lv := [some (.ref x0), some (.int x1)]) (am_cc rfl (am_cc rfl am_c0)) (Nat.le_of_ble_eq_true rfl) rfl (by decide) ?_
  unfold f_Rn_addCome
  refine am_W.ck ?_
  refine aw_aload_n 0 (kk := ?_)
  refine aw_gA 5 3 18 (hw := wd_151) (kk := fun v1 => ?_)
  refine aw_aload_n 0 (kk := ?_)
  refine aw_gI 5 8 43 (hw := wd_156) (kk := fun v2 => ?_)
  refine aw_iconst 0 (v := 0) (kk := ?_)
  refine aw_sZ (kk := fun σ3 => ?_)
  refine aw_aload_n 0 (kk := ?_)
  refine aw_gA 5 2 15 (hw := wd_150) (kk := fun v4 => ?_)
  refine aw_aload_n 0 (kk := ?_)
  refine aw_gI 5 8 43 (hw := wd_156) (kk := fun v5 => ?_)
  refine aw_iload_n 1 (kk := ?_)
  refine aw_sI (kk := fun σ6 => ?_)
  refine aw_aload_n 0 (kk := ?_)
  refine aw_dup (kk := ?_)
  refine aw_gI 5 8 43 (hw := wd_156) (kk := fun v7 => ?_)
  refine aw_iconst 1 (v := 1) (kk := ?_)
  refine aw_iadd (kk := ?_)
  refine aw_pI 5 8 43 (hw := wd_156) (kk := fun σ8 => ?_)
  exact aw_vret
def f_Rn_listChanges_j32 (F : Nat) (x0 : Nat) (x1 : Nat) (x2 : Nat) (x3 : Int32) (x4 : Int32) (k15 : Int32 → Int32 → am_S → Option (am_S)) (σ : am_S) : Option (am_S) :=
  (f_Rn_compareNext F σ x1 x3 x2 x4).bind fun v4 =>
  if 0 ≤ v4 then
    if v4 ≤ 0 then
      (am_gA σ 5 5 x0).bind fun v5 =>
      (am_sI σ v5 x3 x4).bind fun σ6 =>
      k15 (x3 + 1) (x4 + 1) σ6
    else
      (f_Rn_addCome F σ x0 x4).bind fun σ7 =>
      k15 x3 (x4 + 1) σ7
  else
    (f_Rn_addGone F σ x0 x3).bind fun σ8 =>
    k15 (x3 + 1) x4 σ8
theorem b_Rn_listChanges_j32 {g : am_G} {σ0 : am_S} (F : Nat) (x0 : Nat) (x1 : Nat) (x2 : Nat) (x3 : Int32) (x4 : Int32) (k15 : Int32 → Int32 → am_S → Option (am_S)) (h15 : ∀ (y3 : Int32) (y4 : Int32)  (τ : am_S), am_W g mx_Rn_listChanges σ0 15 [some (.ref x0), some (.ref x1), some (.ref x2), some (.int y3), some (.int y4), none] [] τ (k15 y3 y4 τ) am_kV) (σ : am_S) : am_W g mx_Rn_listChanges σ0 32 [some (.ref x0), some (.ref x1), some (.ref x2), some (.int x3), some (.int x4), none] [] σ (f_Rn_listChanges_j32 F x0 x1 x2 x3 x4 k15 σ) am_kV := by
  unfold f_Rn_listChanges_j32
  refine aw_aload_n 1 (kk := ?_)
  refine aw_iload_n 3 (kk := ?_)
  refine aw_aload_n 2 (kk := ?_)
  refine aw_iload 4 (kk := ?_)
  refine ac_PI (st := []) [.ref x1, .int x3, .ref x2, .int x4] (ag_S 61 wd_703 cal_Rn_compareNext wd_704) cal_Rn_compareNext ⟨by decide, by decide⟩ (Nat.le_of_ble_eq_true rfl) (m_Rn_compareNext g F σ x1 x3 x2 x4) (fun v4 => ?_)
  refine aw_istore 5 (kk := ?_)
  refine aw_iload 5 (kk := ?_)
  refine aw_if_ge 14 58 (kt := fun _ => ?_) (kf := fun _ => ?_)
  · refine aw_iload 5 (kk := ?_)
    refine aw_if_le 15 75 (kt := fun _ => ?_) (kf := fun _ => ?_)
    · refine aw_aload_n 0 (kk := ?_)
      refine aw_gA 5 5 25 (hw := wd_153) (kk := fun v5 => ?_)
      refine aw_iload_n 3 (kk := ?_)
      refine aw_iload 4 (kk := ?_)
      refine aw_sI (kk := fun σ6 => ?_)
      refine aw_iinc 3 1 (v := 1) (kk := ?_)
      refine aw_iinc 4 1 (v := 1) (kk := ?_)
      refine aw_goto (-74) 15 (kk := ?_)
      exact am_W.drop [true, true, true, true, true, false] (h15 (x3 + 1) (x4 + 1) σ6)
    · refine aw_aload_n 0 (kk := ?_)
      refine aw_iload 4 (kk := ?_)
      refine ac_V (st := []) [.ref x0, .int x4] (ag_V 69 5 rc_Rn_addCome wd_714 cal_Rn_addCome wd_716 ws_19) cal_Rn_addCome ⟨by decide, by decide⟩ (Nat.le_of_ble_eq_true rfl) (m_Rn_addCome g F σ x0 x4) (fun σ7 => ?_)
      refine aw_iinc 4 1 (v := 1) (kk := ?_)
      refine aw_goto 17 89 (kk := ?_)
      refine aw_goto (-74) 15 (kk := ?_)
      exact am_W.drop [true, true, true, true, true, false] (h15 x3 (x4 + 1) σ7)
  · refine aw_aload_n 0 (kk := ?_)
    refine aw_iload_n 3 (kk := ?_)
    refine ac_V (st := []) [.ref x0, .int x3] (ag_V 65 5 rc_Rn_addGone wd_710 cal_Rn_addGone wd_712 ws_18) cal_Rn_addGone ⟨by decide, by decide⟩ (Nat.le_of_ble_eq_true rfl) (m_Rn_addGone g F σ x0 x3) (fun σ8 => ?_)
    refine aw_iinc 3 1 (v := 1) (kk := ?_)
    refine aw_goto 34 89 (kk := ?_)
    refine aw_goto (-74) 15 (kk := ?_)
    exact am_W.drop [true, true, true, true, true, false] (h15 (x3 + 1) x4 σ8)
def f_Rn_listChanges_l15 (F : Nat) (x0 : Nat) (x1 : Nat) (x2 : Nat)  : Nat → Int32 → Int32 → am_S → Option (am_S)
  | 0, _, _, _ => none
  | n + 1, x3, x4, σ =>
    (f_Pm_size F σ x1).bind fun v3 =>
    if x3 < v3 then
      f_Rn_listChanges_j32 F x0 x1 x2 x3 x4 (fun y3 y4 τ => f_Rn_listChanges_l15 F x0 x1 x2 n y3 y4 τ) σ
    else
      (f_Pm_size F σ x2).bind fun v9 =>
      if v9 ≤ x4 then
        some σ
      else
        f_Rn_listChanges_j32 F x0 x1 x2 x3 x4 (fun y3 y4 τ => f_Rn_listChanges_l15 F x0 x1 x2 n y3 y4 τ) σ
theorem b_Rn_listChanges_l15 {g : am_G} {σ0 : am_S} (F : Nat) (x0 : Nat) (x1 : Nat) (x2 : Nat)   : ∀ (n : Nat) (x3 : Int32) (x4 : Int32) (σ : am_S), am_W g mx_Rn_listChanges σ0 15 [some (.ref x0), some (.ref x1), some (.ref x2), some (.int x3), some (.int x4), none] [] σ (f_Rn_listChanges_l15 F x0 x1 x2 n x3 x4 σ) am_kV := by
  intro n
  induction n with
  | zero =>
    intro x3 x4 σ
    rw [f_Rn_listChanges_l15]
    exact am_W.none
  | succ n ih =>
    intro x3 x4 σ
    rw [f_Rn_listChanges_l15]
    refine aw_iload_n 3 (kk := ?_)
    refine aw_aload_n 1 (kk := ?_)
    refine ac_PI (st := [.int x3]) [.ref x1] (ag_V 55 4 rc_Pm_size wd_702 cal_Pm_size wd_352 wd_353) cal_Pm_size ⟨by decide, by decide⟩ (Nat.le_of_ble_eq_true rfl) (m_Pm_size g F σ x1) (fun v3 => ?_)
    refine aw_icmp_lt 12 32 (kt := fun _ => ?_) (kf := fun _ => ?_)
    · exact am_W.drop [true, true, true, true, true, false] (b_Rn_listChanges_j32 F x0 x1 x2 x3 x4 (fun y3 y4 τ => f_Rn_listChanges_l15 F x0 x1 x2 n y3 y4 τ) (fun y3 y4 τ => am_W.drop [true, true, true, true, true, false] (ih y3 y4 τ)) σ)
    · refine aw_iload 4 (kk := ?_)
      refine aw_aload_n 2 (kk := ?_)
      refine ac_PI (st := [.int x4]) [.ref x2] (ag_V 55 4 rc_Pm_size wd_702 cal_Pm_size wd_352 wd_353) cal_Pm_size ⟨by decide, by decide⟩ (Nat.le_of_ble_eq_true rfl) (m_Pm_size g F σ x2) (fun v9 => ?_)
      refine aw_icmp_ge 63 92 (kt := fun _ => ?_) (kf := fun _ => ?_)
      · exact aw_vret
      · exact am_W.drop [true, true, true, true, true, false] (b_Rn_listChanges_j32 F x0 x1 x2 x3 x4 (fun y3 y4 τ => f_Rn_listChanges_l15 F x0 x1 x2 n y3 y4 τ) (fun y3 y4 τ => am_W.drop [true, true, true, true, true, false] (ih y3 y4 τ)) σ)
def f_Rn_listChanges (F : Nat) (σ : am_S) (x0 : Nat) (x1 : Nat) (x2 : Nat) : Option (am_S) :=
  am_ck σ 5 x0 (
  (am_pI σ 5 7 x0 0).bind fun σ1 =>
  (am_pI σ1 5 8 x0 0).bind fun σ2 =>
  f_Rn_listChanges_l15 F x0 x1 x2 F 0 0 σ2)
theorem rc_Rn_listChanges {F : Nat} {σ : am_S} {x0 : Nat} {x1 : Nat} {x2 : Nat} (h : (f_Rn_listChanges F σ x0 x1 x2).isSome = true) : ∃ fs, σ.2.2 x0 = some (.inr (5, fs)) := am_ck_some h
theorem m_Rn_listChanges (g : am_G) (F : Nat) (σ : am_S) (x0 : Nat) (x1 : Nat) (x2 : Nat) : am_Met g mx_Rn_listChanges [.ref x0, .ref x1, .ref x2] σ ((f_Rn_listChanges F σ x0 x1 x2).bind am_kV) := by
  refine am_Met.of (lv := [some (.ref x0), some (.ref x1), some (.ref x2), none, none, none]) (am_cc rfl (am_cc rfl (am_cc rfl am_c0))) (Nat.le_of_ble_eq_true rfl) rfl (by decide) ?_
  unfold f_Rn_listChanges
  refine am_W.ck ?_
  refine aw_aload_n 0 (kk := ?_)
  refine aw_iconst 0 (v := 0) (kk := ?_)
  refine aw_pI 5 7 35 (hw := wd_155) (kk := fun σ1 => ?_)
  refine aw_aload_n 0 (kk := ?_)
  refine aw_iconst 0 (v := 0) (kk := ?_)
  refine aw_pI 5 8 43 (hw := wd_156) (kk := fun σ2 => ?_)
  refine aw_iconst 0 (v := 0) (kk := ?_)
  refine aw_istore_n 3 (kk := ?_)
  refine aw_iconst 0 (v := 0) (kk := ?_)
  refine aw_istore 4 (kk := ?_)
  exact am_W.drop [true, true, true, true, true, false] (b_Rn_listChanges_l15 F x0 x1 x2 F 0 0 σ2)
def f_Rn_join (F : Nat) (σ : am_S) (x0 : Nat) (x1 : Int32) (x2 : Int32) (x3 : Int32) : Option (am_S) :=
  am_ck σ 5 x0 (
  (am_gA σ 5 5 x0).bind fun v1 =>
  (am_gA σ 5 1 x0).bind fun v2 =>
  (am_lI σ .int v2 x1).bind fun v3 =>
  (am_gA σ 5 2 x0).bind fun v4 =>
  (am_lI σ .int v4 x2).bind fun v5 =>
  (am_sI σ v1 v3 v5).bind fun σ6 =>
  (am_gA σ6 5 6 x0).bind fun v7 =>
  (am_gA σ6 5 1 x0).bind fun v8 =>
  (am_lI σ6 .int v8 x1).bind fun v9 =>
  (am_sI σ6 v7 v9 x3).bind fun σ10 =>
  (am_gA σ10 5 3 x0).bind fun v11 =>
  (am_sZ σ10 v11 x2 1).bind fun σ12 =>
  some σ12)
theorem rc_Rn_join {F : Nat} {σ : am_S} {x0 : Nat} {x1 : Int32} {x2 : Int32} {x3 : Int32} (h : (f_Rn_join F σ x0 x1 x2 x3).isSome = true) : ∃ fs, σ.2.2 x0 = some (.inr (5, fs)) := am_ck_some h
theorem m_Rn_join (g : am_G) (F : Nat) (σ : am_S) (x0 : Nat) (x1 : Int32) (x2 : Int32) (x3 : Int32) : am_Met g mx_Rn_join [.ref x0, .int x1, .int x2, .int x3] σ ((f_Rn_join F σ x0 x1 x2 x3).bind am_kV) := by
  refine am_Met.of (lv := [some (.ref x0), some (.int x1), some (.int x2), some (.int x3)]) (am_cc rfl (am_cc rfl (am_cc rfl (am_cc rfl am_c0)))) (Nat.le_of_ble_eq_true rfl) rfl (by decide) ?_
  unfold f_Rn_join
  refine am_W.ck ?_
  refine aw_aload_n 0 (kk := ?_)
  refine aw_gA 5 5 25 (hw := wd_153) (kk := fun v1 => ?_)
  refine aw_aload_n 0 (kk := ?_)
  refine aw_gA 5 1 9 (hw := wd_149) (kk := fun v2 => ?_)
  refine aw_iload_n 1 (kk := ?_)
  refine aw_lI (kk := fun v3 => ?_)
  refine aw_aload_n 0 (kk := ?_)
  refine aw_gA 5 2 15 (hw := wd_150) (kk := fun v4 => ?_)
  refine aw_iload_n 2 (kk := ?_)
  refine aw_lI (kk := fun v5 => ?_)
  refine aw_sI (kk := fun σ6 => ?_)
  refine aw_aload_n 0 (kk := ?_)
  refine aw_gA 5 6 28 (hw := wd_154) (kk := fun v7 => ?_)
  refine aw_aload_n 0 (kk := ?_)
  refine aw_gA 5 1 9 (hw := wd_149) (kk := fun v8 => ?_)
  refine aw_iload_n 1 (kk := ?_)
  refine aw_lI (kk := fun v9 => ?_)
  refine aw_iload_n 3 (kk := ?_)
  refine aw_sI (kk := fun σ10 => ?_)
  refine aw_aload_n 0 (kk := ?_)
  refine aw_gA 5 3 18 (hw := wd_151) (kk := fun v11 => ?_)
  refine aw_iload_n 2 (kk := ?_)
  refine aw_iconst 1 (v := 1) (kk := ?_)
  refine aw_sZ (kk := fun σ12 => ?_)
  exact aw_vret
def f_Rn_pairSameBlobs_l44 (F : Nat) (x0 : Nat) (x2 : Nat) (x3 : Int32) (x4 : Int32) (k103 : am_S → Option (am_S)) : Nat → Int32 → Int32 → am_S → Option (am_S)
  | 0, _, _, _ => none
  | n + 1, x5, x6, σ =>
    (am_gI σ 5 8 x0).bind fun v8 =>
    if v8 ≤ x6 then
      k103 σ
    else
      if x5 = 0 then
        k103 σ
      else
        (am_gA σ 5 3 x0).bind fun v9 =>
        (am_lI σ .boolean v9 x6).bind fun v10 =>
        if v10 = 0 then
          (am_gA σ 5 2 x0).bind fun v11 =>
          (am_lI σ .int v11 x6).bind fun v12 =>
          (f_Pm_valueAt F σ x2 v12).bind fun v13 =>
          if v13 = x4 then
            (f_Rn_join F σ x0 x3 x6 1000).bind fun σ14 =>
            f_Rn_pairSameBlobs_l44 F x0 x2 x3 x4 k103 n 0 (x6 + 1) σ14
          else
            f_Rn_pairSameBlobs_l44 F x0 x2 x3 x4 k103 n x5 (x6 + 1) σ
        else
          f_Rn_pairSameBlobs_l44 F x0 x2 x3 x4 k103 n x5 (x6 + 1) σ
theorem b_Rn_pairSameBlobs_l44 {g : am_G} {σ0 : am_S} (F : Nat) (x0 : Nat) (x1 : Nat) (x2 : Nat) (x3 : Int32) (x4 : Int32) (k103 : am_S → Option (am_S)) (h103 : ∀ (τ : am_S), am_W g mx_Rn_pairSameBlobs σ0 103 [some (.ref x0), some (.ref x1), some (.ref x2), some (.int x3), none, none, none] [] τ (k103 τ) am_kV) : ∀ (n : Nat) (x5 : Int32) (x6 : Int32) (σ : am_S), am_W g mx_Rn_pairSameBlobs σ0 44 [some (.ref x0), some (.ref x1), some (.ref x2), some (.int x3), some (.int x4), some (.int x5), some (.int x6)] [] σ (f_Rn_pairSameBlobs_l44 F x0 x2 x3 x4 k103 n x5 x6 σ) am_kV := by
  intro n
  induction n with
  | zero =>
    intro x5 x6 σ
    rw [f_Rn_pairSameBlobs_l44]
    exact am_W.none
  | succ n ih =>
    intro x5 x6 σ
    rw [f_Rn_pairSameBlobs_l44]
    refine aw_iload 6 (kk := ?_)
    refine aw_aload_n 0 (kk := ?_)
    refine aw_gI 5 8 43 (hw := wd_156) (kk := fun v8 => ?_)
    refine aw_icmp_ge 53 103 (kt := fun _ => ?_) (kf := fun _ => ?_)
    · exact am_W.drop [true, true, true, true, false, false, false] (h103 σ)
    · refine aw_iload 5 (kk := ?_)
      refine aw_if_eq 48 103 (kt := fun _ => ?_) (kf := fun _ => ?_)
      · exact am_W.drop [true, true, true, true, false, false, false] (h103 σ)
      · refine aw_aload_n 0 (kk := ?_)
        refine aw_gA 5 3 18 (hw := wd_151) (kk := fun v9 => ?_)
        refine aw_iload 6 (kk := ?_)
        refine aw_lZ (kk := fun v10 => ?_)
        refine aw_if_ne 32 97 (kt := fun _ => ?_) (kf := fun _ => ?_)
        · refine aw_iinc 6 1 (v := 1) (kk := ?_)
          refine aw_goto (-56) 44 (kk := ?_)
          exact am_W.drop [true, true, true, true, true, true, true] (ih x5 (x6 + 1) σ)
        · refine aw_aload_n 2 (kk := ?_)
          refine aw_aload_n 0 (kk := ?_)
          refine aw_gA 5 2 15 (hw := wd_150) (kk := fun v11 => ?_)
          refine aw_iload 6 (kk := ?_)
          refine aw_lI (kk := fun v12 => ?_)
          refine ac_PI (st := []) [.ref x2, .int v12] (ag_V 76 4 rc_Pm_valueAt wd_722 cal_Pm_valueAt wd_723 wd_724) cal_Pm_valueAt ⟨by decide, by decide⟩ (Nat.le_of_ble_eq_true rfl) (m_Pm_valueAt g F σ x2 v12) (fun v13 => ?_)
          refine aw_iload 4 (kk := ?_)
          refine aw_icmp_ne 16 97 (kt := fun _ => ?_) (kf := fun _ => ?_)
          · refine aw_iinc 6 1 (v := 1) (kk := ?_)
            refine aw_goto (-56) 44 (kk := ?_)
            exact am_W.drop [true, true, true, true, true, true, true] (ih x5 (x6 + 1) σ)
          · refine aw_aload_n 0 (kk := ?_)
            refine aw_iload_n 3 (kk := ?_)
            refine aw_iload 6 (kk := ?_)
            refine aw_sipush 1000 (v := 1000) (kk := ?_)
            refine ac_V (st := []) [.ref x0, .int x3, .int x6, .int 1000] (ag_V 85 5 rc_Rn_join wd_727 cal_Rn_join wd_729 ws_21) cal_Rn_join ⟨by decide, by decide⟩ (Nat.le_of_ble_eq_true rfl) (m_Rn_join g F σ x0 x3 x6 1000) (fun σ14 => ?_)
            refine aw_iconst 0 (v := 0) (kk := ?_)
            refine aw_istore 5 (kk := ?_)
            refine aw_iinc 6 1 (v := 1) (kk := ?_)
            refine aw_goto (-56) 44 (kk := ?_)
            exact am_W.drop [true, true, true, true, true, true, true] (ih 0 (x6 + 1) σ14)
def f_Rn_pairSameBlobs_j103 (F : Nat) (x3 : Int32) (k2 : Int32 → am_S → Option (am_S)) (σ : am_S) : Option (am_S) :=
  k2 (x3 + 1) σ
theorem b_Rn_pairSameBlobs_j103 {g : am_G} {σ0 : am_S} (F : Nat) (x0 : Nat) (x1 : Nat) (x2 : Nat) (x3 : Int32) (k2 : Int32 → am_S → Option (am_S)) (h2 : ∀ (y3 : Int32)  (τ : am_S), am_W g mx_Rn_pairSameBlobs σ0 2 [some (.ref x0), some (.ref x1), some (.ref x2), some (.int y3), none, none, none] [] τ (k2 y3 τ) am_kV) (σ : am_S) : am_W g mx_Rn_pairSameBlobs σ0 103 [some (.ref x0), some (.ref x1), some (.ref x2), some (.int x3), none, none, none] [] σ (f_Rn_pairSameBlobs_j103 F x3 k2 σ) am_kV := by
  unfold f_Rn_pairSameBlobs_j103
  refine aw_iinc 3 1 (v := 1) (kk := ?_)
  refine aw_goto (-104) 2 (kk := ?_)
  exact am_W.drop [true, true, true, true, false, false, false] (h2 (x3 + 1) σ)
def f_Rn_pairSameBlobs_j39 (F : Nat) (x0 : Nat) (x2 : Nat) (x3 : Int32) (x4 : Int32) (t7 : Int32) (k2 : Int32 → am_S → Option (am_S)) (σ : am_S) : Option (am_S) :=
  f_Rn_pairSameBlobs_l44 F x0 x2 x3 x4 (fun τ => f_Rn_pairSameBlobs_j103 F x3 (fun y3 τ => k2 y3 τ) τ) F t7 0 σ
theorem b_Rn_pairSameBlobs_j39 {g : am_G} {σ0 : am_S} (F : Nat) (x0 : Nat) (x1 : Nat) (x2 : Nat) (x3 : Int32) (x4 : Int32) (t7 : Int32) (k2 : Int32 → am_S → Option (am_S)) (h2 : ∀ (y3 : Int32)  (τ : am_S), am_W g mx_Rn_pairSameBlobs σ0 2 [some (.ref x0), some (.ref x1), some (.ref x2), some (.int y3), none, none, none] [] τ (k2 y3 τ) am_kV) (σ : am_S) : am_W g mx_Rn_pairSameBlobs σ0 39 [some (.ref x0), some (.ref x1), some (.ref x2), some (.int x3), some (.int x4), none, none] [.int t7] σ (f_Rn_pairSameBlobs_j39 F x0 x2 x3 x4 t7 k2 σ) am_kV := by
  unfold f_Rn_pairSameBlobs_j39
  refine aw_istore 5 (kk := ?_)
  refine aw_iconst 0 (v := 0) (kk := ?_)
  refine aw_istore 6 (kk := ?_)
  exact am_W.drop [true, true, true, true, true, true, true] (b_Rn_pairSameBlobs_l44 F x0 x1 x2 x3 x4 (fun τ => f_Rn_pairSameBlobs_j103 F x3 (fun y3 τ => k2 y3 τ) τ) (fun τ => am_W.drop [true, true, true, true, false, false, false] (b_Rn_pairSameBlobs_j103 F x0 x1 x2 x3 (fun y3 τ => k2 y3 τ) (fun y3 τ => am_W.drop [true, true, true, true, false, false, false] (h2 y3 τ)) τ)) F t7 0 σ)
def f_Rn_pairSameBlobs_l2 (F : Nat) (x0 : Nat) (x1 : Nat) (x2 : Nat)  : Nat → Int32 → am_S → Option (am_S)
  | 0, _, _ => none
  | n + 1, x3, σ =>
    (am_gI σ 5 7 x0).bind fun v1 =>
    if v1 ≤ x3 then
      some σ
    else
      (am_gA σ 5 1 x0).bind fun v2 =>
      (am_lI σ .int v2 x3).bind fun v3 =>
      (f_Pm_valueAt F σ x1 v3).bind fun v4 =>
      (am_gA σ 5 0 x0).bind fun v5 =>
      (f_Bl_lengthOf F σ v5 v4).bind fun v6 =>
      if v6 ≤ 0 then
        f_Rn_pairSameBlobs_j39 F x0 x2 x3 v4 0 (fun y3 τ => f_Rn_pairSameBlobs_l2 F x0 x1 x2 n y3 τ) σ
      else
        f_Rn_pairSameBlobs_j39 F x0 x2 x3 v4 1 (fun y3 τ => f_Rn_pairSameBlobs_l2 F x0 x1 x2 n y3 τ) σ
theorem b_Rn_pairSameBlobs_l2 {g : am_G} {σ0 : am_S} (F : Nat) (x0 : Nat) (x1 : Nat) (x2 : Nat)   : ∀ (n : Nat) (x3 : Int32) (σ : am_S), am_W g mx_Rn_pairSameBlobs σ0 2 [some (.ref x0), some (.ref x1), some (.ref x2), some (.int x3), none, none, none] [] σ (f_Rn_pairSameBlobs_l2 F x0 x1 x2 n x3 σ) am_kV := by
  intro n
  induction n with
  | zero =>
    intro x3 σ
    rw [f_Rn_pairSameBlobs_l2]
    exact am_W.none
  | succ n ih =>
    intro x3 σ
    rw [f_Rn_pairSameBlobs_l2]
    refine aw_iload_n 3 (kk := ?_)
    refine aw_aload_n 0 (kk := ?_)
    refine aw_gI 5 7 35 (hw := wd_155) (kk := fun v1 => ?_)
    refine aw_icmp_ge 102 109 (kt := fun _ => ?_) (kf := fun _ => ?_)
    · exact aw_vret
    · refine aw_aload_n 1 (kk := ?_)
      refine aw_aload_n 0 (kk := ?_)
      refine aw_gA 5 1 9 (hw := wd_149) (kk := fun v2 => ?_)
      refine aw_iload_n 3 (kk := ?_)
      refine aw_lI (kk := fun v3 => ?_)
      refine ac_PI (st := []) [.ref x1, .int v3] (ag_V 76 4 rc_Pm_valueAt wd_722 cal_Pm_valueAt wd_723 wd_724) cal_Pm_valueAt ⟨by decide, by decide⟩ (Nat.le_of_ble_eq_true rfl) (m_Pm_valueAt g F σ x1 v3) (fun v4 => ?_)
      refine aw_istore 4 (kk := ?_)
      refine aw_aload_n 0 (kk := ?_)
      refine aw_gA 5 0 31 (hw := wd_148) (kk := fun v5 => ?_)
      refine aw_iload 4 (kk := ?_)
      refine ac_PI (st := []) [.ref v5, .int v4] (ag_V 80 2 rc_Bl_lengthOf wd_726 cal_Bl_lengthOf wd_593 wd_594) cal_Bl_lengthOf ⟨by decide, by decide⟩ (Nat.le_of_ble_eq_true rfl) (m_Bl_lengthOf g F σ v5 v4) (fun v6 => ?_)
      refine aw_if_le 7 38 (kt := fun _ => ?_) (kf := fun _ => ?_)
      · refine aw_iconst 0 (v := 0) (kk := ?_)
        exact am_W.drop [true, true, true, true, true, false, false] (b_Rn_pairSameBlobs_j39 F x0 x1 x2 x3 v4 0 (fun y3 τ => f_Rn_pairSameBlobs_l2 F x0 x1 x2 n y3 τ) (fun y3 τ => am_W.drop [true, true, true, true, false, false, false] (ih y3 τ)) σ)
      · refine aw_iconst 1 (v := 1) (kk := ?_)
        refine aw_goto 4 39 (kk := ?_)
        exact am_W.drop [true, true, true, true, true, false, false] (b_Rn_pairSameBlobs_j39 F x0 x1 x2 x3 v4 1 (fun y3 τ => f_Rn_pairSameBlobs_l2 F x0 x1 x2 n y3 τ) (fun y3 τ => am_W.drop [true, true, true, true, false, false, false] (ih y3 τ)) σ)
def f_Rn_pairSameBlobs (F : Nat) (σ : am_S) (x0 : Nat) (x1 : Nat) (x2 : Nat) : Option (am_S) :=
  am_ck σ 5 x0 (
  f_Rn_pairSameBlobs_l2 F x0 x1 x2 F 0 σ)
theorem rc_Rn_pairSameBlobs {F : Nat} {σ : am_S} {x0 : Nat} {x1 : Nat} {x2 : Nat} (h : (f_Rn_pairSameBlobs F σ x0 x1 x2).isSome = true) : ∃ fs, σ.2.2 x0 = some (.inr (5, fs)) := am_ck_some h
theorem m_Rn_pairSameBlobs (g : am_G) (F : Nat) (σ : am_S) (x0 : Nat) (x1 : Nat) (x2 : Nat) : am_Met g mx_Rn_pairSameBlobs [.ref x0, .ref x1, .ref x2] σ ((f_Rn_pairSameBlobs F σ x0 x1 x2).bind am_kV) := by
  refine am_Met.of (lv := [some (.ref x0), some (.ref x1), some (.ref x2), none, none, none, none]) (am_cc rfl (am_cc rfl (am_cc rfl am_c0))) (Nat.le_of_ble_eq_true rfl) rfl (by decide) ?_
  unfold f_Rn_pairSameBlobs
  refine am_W.ck ?_
  refine aw_iconst 0 (v := 0) (kk := ?_)
  refine aw_istore_n 3 (kk := ?_)
  exact am_W.drop [true, true, true, true, false, false, false] (b_Rn_pairSameBlobs_l2 F x0 x1 x2 F 0 σ)
def f_Rn_scoreAll_j76 (F : Nat) (x0 : Nat) (x3 : Int32) (x4 : Int32) (x5 : Int32) (x6 : Int32) (t11 : Int32) (k25 : Int32 → am_S → Option (am_S)) (σ : am_S) : Option (am_S) :=
  (am_gA σ 5 4 x0).bind fun v12 =>
  if t11 = 0 then
    (am_gA σ 5 0 x0).bind fun v13 =>
    am_b2 (f_Bl_score F σ v13 x4 x6) fun v14 σ15 =>
    (am_sI σ15 v12 ((x3 * 50) + x5) v14).bind fun σ16 =>
    k25 (x5 + 1) σ16
  else
    (am_sI σ v12 ((x3 * 50) + x5) 0).bind fun σ17 =>
    k25 (x5 + 1) σ17
theorem b_Rn_scoreAll_j76 {g : am_G} {σ0 : am_S} (F : Nat) (x0 : Nat) (x1 : Nat) (x2 : Nat) (x3 : Int32) (x4 : Int32) (x5 : Int32) (x6 : Int32) (t11 : Int32) (k25 : Int32 → am_S → Option (am_S)) (h25 : ∀ (y5 : Int32)  (τ : am_S), am_W g mx_Rn_scoreAll σ0 25 [some (.ref x0), some (.ref x1), some (.ref x2), some (.int x3), some (.int x4), some (.int y5), none, none] [] τ (k25 y5 τ) am_kV) (σ : am_S) : am_W g mx_Rn_scoreAll σ0 76 [some (.ref x0), some (.ref x1), some (.ref x2), some (.int x3), some (.int x4), some (.int x5), some (.int x6), none] [.int t11] σ (f_Rn_scoreAll_j76 F x0 x3 x4 x5 x6 t11 k25 σ) am_kV := by
  unfold f_Rn_scoreAll_j76
  refine aw_istore 7 (kk := ?_)
  refine aw_aload_n 0 (kk := ?_)
  refine aw_gA 5 4 22 (hw := wd_152) (kk := fun v12 => ?_)
  refine aw_iload_n 3 (kk := ?_)
  refine aw_bipush 50 (v := 50) (kk := ?_)
  refine aw_imul (kk := ?_)
  refine aw_iload 5 (kk := ?_)
  refine aw_iadd (kk := ?_)
  refine aw_iload 7 (kk := ?_)
  refine aw_if_eq 7 98 (kt := fun _ => ?_) (kf := fun _ => ?_)
  · refine aw_aload_n 0 (kk := ?_)
    refine aw_gA 5 0 31 (hw := wd_148) (kk := fun v13 => ?_)
    refine aw_iload 4 (kk := ?_)
    refine aw_iload 6 (kk := ?_)
    refine ac_I (st := [.int ((x3 * 50) + x5), .ref v12]) [.ref v13, .int x4, .int x6] (ag_V 89 2 rc_Bl_score wd_735 cal_Bl_score wd_736 wd_737) cal_Bl_score ⟨by decide, by decide⟩ (Nat.le_of_ble_eq_true rfl) (m_Bl_score g F σ v13 x4 x6) (fun v14 σ15 => ?_)
    refine aw_sI (kk := fun σ16 => ?_)
    refine aw_iinc 5 1 (v := 1) (kk := ?_)
    refine aw_goto (-88) 25 (kk := ?_)
    exact am_W.drop [true, true, true, true, true, true, false, false] (h25 (x5 + 1) σ16)
  · refine aw_iconst 0 (v := 0) (kk := ?_)
    refine aw_goto 14 109 (kk := ?_)
    refine aw_sI (kk := fun σ17 => ?_)
    refine aw_iinc 5 1 (v := 1) (kk := ?_)
    refine aw_goto (-88) 25 (kk := ?_)
    exact am_W.drop [true, true, true, true, true, true, false, false] (h25 (x5 + 1) σ17)
def f_Rn_scoreAll_j71 (F : Nat) (x0 : Nat) (x3 : Int32) (x4 : Int32) (x5 : Int32) (x6 : Int32) (k25 : Int32 → am_S → Option (am_S)) (σ : am_S) : Option (am_S) :=
  f_Rn_scoreAll_j76 F x0 x3 x4 x5 x6 1 (fun y5 τ => k25 y5 τ) σ
theorem b_Rn_scoreAll_j71 {g : am_G} {σ0 : am_S} (F : Nat) (x0 : Nat) (x1 : Nat) (x2 : Nat) (x3 : Int32) (x4 : Int32) (x5 : Int32) (x6 : Int32) (k25 : Int32 → am_S → Option (am_S)) (h25 : ∀ (y5 : Int32)  (τ : am_S), am_W g mx_Rn_scoreAll σ0 25 [some (.ref x0), some (.ref x1), some (.ref x2), some (.int x3), some (.int x4), some (.int y5), none, none] [] τ (k25 y5 τ) am_kV) (σ : am_S) : am_W g mx_Rn_scoreAll σ0 71 [some (.ref x0), some (.ref x1), some (.ref x2), some (.int x3), some (.int x4), some (.int x5), some (.int x6), none] [] σ (f_Rn_scoreAll_j71 F x0 x3 x4 x5 x6 k25 σ) am_kV := by
  unfold f_Rn_scoreAll_j71
  refine aw_iconst 1 (v := 1) (kk := ?_)
  refine aw_goto 4 76 (kk := ?_)
  exact am_W.drop [true, true, true, true, true, true, true, false] (b_Rn_scoreAll_j76 F x0 x1 x2 x3 x4 x5 x6 1 (fun y5 τ => k25 y5 τ) (fun y5 τ => am_W.drop [true, true, true, true, true, true, false, false] (h25 y5 τ)) σ)
def f_Rn_scoreAll_l25 (F : Nat) (x0 : Nat) (x2 : Nat) (x3 : Int32) (x4 : Int32) (k116 : am_S → Option (am_S)) : Nat → Int32 → am_S → Option (am_S)
  | 0, _, _ => none
  | n + 1, x5, σ =>
    (am_gI σ 5 8 x0).bind fun v5 =>
    if v5 ≤ x5 then
      k116 σ
    else
      (am_gA σ 5 2 x0).bind fun v6 =>
      (am_lI σ .int v6 x5).bind fun v7 =>
      (f_Pm_valueAt F σ x2 v7).bind fun v8 =>
      (am_gA σ 5 0 x0).bind fun v9 =>
      (f_Bl_lengthOf F σ v9 x4).bind fun v10 =>
      if v10 = 0 then
        f_Rn_scoreAll_j71 F x0 x3 x4 x5 v8 (fun y5 τ => f_Rn_scoreAll_l25 F x0 x2 x3 x4 k116 n y5 τ) σ
      else
        (am_gA σ 5 0 x0).bind fun v18 =>
        (f_Bl_lengthOf F σ v18 v8).bind fun v19 =>
        if v19 = 0 then
          f_Rn_scoreAll_j71 F x0 x3 x4 x5 v8 (fun y5 τ => f_Rn_scoreAll_l25 F x0 x2 x3 x4 k116 n y5 τ) σ
        else
          f_Rn_scoreAll_j76 F x0 x3 x4 x5 v8 0 (fun y5 τ => f_Rn_scoreAll_l25 F x0 x2 x3 x4 k116 n y5 τ) σ
theorem b_Rn_scoreAll_l25 {g : am_G} {σ0 : am_S} (F : Nat) (x0 : Nat) (x1 : Nat) (x2 : Nat) (x3 : Int32) (x4 : Int32) (k116 : am_S → Option (am_S)) (h116 : ∀ (τ : am_S), am_W g mx_Rn_scoreAll σ0 116 [some (.ref x0), some (.ref x1), some (.ref x2), some (.int x3), none, none, none, none] [] τ (k116 τ) am_kV) : ∀ (n : Nat) (x5 : Int32) (σ : am_S), am_W g mx_Rn_scoreAll σ0 25 [some (.ref x0), some (.ref x1), some (.ref x2), some (.int x3), some (.int x4), some (.int x5), none, none] [] σ (f_Rn_scoreAll_l25 F x0 x2 x3 x4 k116 n x5 σ) am_kV := by
  intro n
  induction n with
  | zero =>
    intro x5 σ
    rw [f_Rn_scoreAll_l25]
    exact am_W.none
  | succ n ih =>
    intro x5 σ
    rw [f_Rn_scoreAll_l25]
    refine aw_iload 5 (kk := ?_)
    refine aw_aload_n 0 (kk := ?_)
    refine aw_gI 5 8 43 (hw := wd_156) (kk := fun v5 => ?_)
    refine aw_icmp_ge 85 116 (kt := fun _ => ?_) (kf := fun _ => ?_)
    · exact am_W.drop [true, true, true, true, false, false, false, false] (h116 σ)
    · refine aw_aload_n 2 (kk := ?_)
      refine aw_aload_n 0 (kk := ?_)
      refine aw_gA 5 2 15 (hw := wd_150) (kk := fun v6 => ?_)
      refine aw_iload 5 (kk := ?_)
      refine aw_lI (kk := fun v7 => ?_)
      refine ac_PI (st := []) [.ref x2, .int v7] (ag_V 76 4 rc_Pm_valueAt wd_722 cal_Pm_valueAt wd_723 wd_724) cal_Pm_valueAt ⟨by decide, by decide⟩ (Nat.le_of_ble_eq_true rfl) (m_Pm_valueAt g F σ x2 v7) (fun v8 => ?_)
      refine aw_istore 6 (kk := ?_)
      refine aw_aload_n 0 (kk := ?_)
      refine aw_gA 5 0 31 (hw := wd_148) (kk := fun v9 => ?_)
      refine aw_iload 4 (kk := ?_)
      refine ac_PI (st := []) [.ref v9, .int x4] (ag_V 80 2 rc_Bl_lengthOf wd_726 cal_Bl_lengthOf wd_593 wd_594) cal_Bl_lengthOf ⟨by decide, by decide⟩ (Nat.le_of_ble_eq_true rfl) (m_Bl_lengthOf g F σ v9 x4) (fun v10 => ?_)
      refine aw_if_eq 15 71 (kt := fun _ => ?_) (kf := fun _ => ?_)
      · exact am_W.drop [true, true, true, true, true, true, true, false] (b_Rn_scoreAll_j71 F x0 x1 x2 x3 x4 x5 v8 (fun y5 τ => f_Rn_scoreAll_l25 F x0 x2 x3 x4 k116 n y5 τ) (fun y5 τ => am_W.drop [true, true, true, true, true, true, false, false] (ih y5 τ)) σ)
      · refine aw_aload_n 0 (kk := ?_)
        refine aw_gA 5 0 31 (hw := wd_148) (kk := fun v18 => ?_)
        refine aw_iload 6 (kk := ?_)
        refine ac_PI (st := []) [.ref v18, .int v8] (ag_V 80 2 rc_Bl_lengthOf wd_726 cal_Bl_lengthOf wd_593 wd_594) cal_Bl_lengthOf ⟨by decide, by decide⟩ (Nat.le_of_ble_eq_true rfl) (m_Bl_lengthOf g F σ v18 v8) (fun v19 => ?_)
        refine aw_if_ne 7 75 (kt := fun _ => ?_) (kf := fun _ => ?_)
        · refine aw_iconst 0 (v := 0) (kk := ?_)
          exact am_W.drop [true, true, true, true, true, true, true, false] (b_Rn_scoreAll_j76 F x0 x1 x2 x3 x4 x5 v8 0 (fun y5 τ => f_Rn_scoreAll_l25 F x0 x2 x3 x4 k116 n y5 τ) (fun y5 τ => am_W.drop [true, true, true, true, true, true, false, false] (ih y5 τ)) σ)
        · exact am_W.drop [true, true, true, true, true, true, true, false] (b_Rn_scoreAll_j71 F x0 x1 x2 x3 x4 x5 v8 (fun y5 τ => f_Rn_scoreAll_l25 F x0 x2 x3 x4 k116 n y5 τ) (fun y5 τ => am_W.drop [true, true, true, true, true, true, false, false] (ih y5 τ)) σ)
def f_Rn_scoreAll_j116 (F : Nat) (x3 : Int32) (k2 : Int32 → am_S → Option (am_S)) (σ : am_S) : Option (am_S) :=
  k2 (x3 + 1) σ
theorem b_Rn_scoreAll_j116 {g : am_G} {σ0 : am_S} (F : Nat) (x0 : Nat) (x1 : Nat) (x2 : Nat) (x3 : Int32) (k2 : Int32 → am_S → Option (am_S)) (h2 : ∀ (y3 : Int32)  (τ : am_S), am_W g mx_Rn_scoreAll σ0 2 [some (.ref x0), some (.ref x1), some (.ref x2), some (.int y3), none, none, none, none] [] τ (k2 y3 τ) am_kV) (σ : am_S) : am_W g mx_Rn_scoreAll σ0 116 [some (.ref x0), some (.ref x1), some (.ref x2), some (.int x3), none, none, none, none] [] σ (f_Rn_scoreAll_j116 F x3 k2 σ) am_kV := by
  unfold f_Rn_scoreAll_j116
  refine aw_iinc 3 1 (v := 1) (kk := ?_)
  refine aw_goto (-117) 2 (kk := ?_)
  exact am_W.drop [true, true, true, true, false, false, false, false] (h2 (x3 + 1) σ)
def f_Rn_scoreAll_l2 (F : Nat) (x0 : Nat) (x1 : Nat) (x2 : Nat)  : Nat → Int32 → am_S → Option (am_S)
  | 0, _, _ => none
  | n + 1, x3, σ =>
    (am_gI σ 5 7 x0).bind fun v1 =>
    if v1 ≤ x3 then
      some σ
    else
      (am_gA σ 5 1 x0).bind fun v2 =>
      (am_lI σ .int v2 x3).bind fun v3 =>
      (f_Pm_valueAt F σ x1 v3).bind fun v4 =>
      f_Rn_scoreAll_l25 F x0 x2 x3 v4 (fun τ => f_Rn_scoreAll_j116 F x3 (fun y3 τ => f_Rn_scoreAll_l2 F x0 x1 x2 n y3 τ) τ) F 0 σ
theorem b_Rn_scoreAll_l2 {g : am_G} {σ0 : am_S} (F : Nat) (x0 : Nat) (x1 : Nat) (x2 : Nat)   : ∀ (n : Nat) (x3 : Int32) (σ : am_S), am_W g mx_Rn_scoreAll σ0 2 [some (.ref x0), some (.ref x1), some (.ref x2), some (.int x3), none, none, none, none] [] σ (f_Rn_scoreAll_l2 F x0 x1 x2 n x3 σ) am_kV := by
  intro n
  induction n with
  | zero =>
    intro x3 σ
    rw [f_Rn_scoreAll_l2]
    exact am_W.none
  | succ n ih =>
    intro x3 σ
    rw [f_Rn_scoreAll_l2]
    refine aw_iload_n 3 (kk := ?_)
    refine aw_aload_n 0 (kk := ?_)
    refine aw_gI 5 7 35 (hw := wd_155) (kk := fun v1 => ?_)
    refine aw_icmp_ge 115 122 (kt := fun _ => ?_) (kf := fun _ => ?_)
    · exact aw_vret
    · refine aw_aload_n 1 (kk := ?_)
      refine aw_aload_n 0 (kk := ?_)
      refine aw_gA 5 1 9 (hw := wd_149) (kk := fun v2 => ?_)
      refine aw_iload_n 3 (kk := ?_)
      refine aw_lI (kk := fun v3 => ?_)
      refine ac_PI (st := []) [.ref x1, .int v3] (ag_V 76 4 rc_Pm_valueAt wd_722 cal_Pm_valueAt wd_723 wd_724) cal_Pm_valueAt ⟨by decide, by decide⟩ (Nat.le_of_ble_eq_true rfl) (m_Pm_valueAt g F σ x1 v3) (fun v4 => ?_)
      refine aw_istore 4 (kk := ?_)
      refine aw_iconst 0 (v := 0) (kk := ?_)
      refine aw_istore 5 (kk := ?_)
      exact am_W.drop [true, true, true, true, true, true, false, false] (b_Rn_scoreAll_l25 F x0 x1 x2 x3 v4 (fun τ => f_Rn_scoreAll_j116 F x3 (fun y3 τ => f_Rn_scoreAll_l2 F x0 x1 x2 n y3 τ) τ) (fun τ => am_W.drop [true, true, true, true, false, false, false, false] (b_Rn_scoreAll_j116 F x0 x1 x2 x3 (fun y3 τ => f_Rn_scoreAll_l2 F x0 x1 x2 n y3 τ) (fun y3 τ => am_W.drop [true, true, true, true, false, false, false, false] (ih y3 τ)) τ)) F 0 σ)
def f_Rn_scoreAll (F : Nat) (σ : am_S) (x0 : Nat) (x1 : Nat) (x2 : Nat) : Option (am_S) :=
  am_ck σ 5 x0 (
  f_Rn_scoreAll_l2 F x0 x1 x2 F 0 σ)
theorem rc_Rn_scoreAll {F : Nat} {σ : am_S} {x0 : Nat} {x1 : Nat} {x2 : Nat} (h : (f_Rn_scoreAll F σ x0 x1 x2).isSome = true) : ∃ fs, σ.2.2 x0 = some (.inr (5, fs)) := am_ck_some h
theorem m_Rn_scoreAll (g : am_G) (F : Nat) (σ : am_S) (x0 : Nat) (x1 : Nat) (x2 : Nat) : am_Met g mx_Rn_scoreAll [.ref x0, .ref x1, .ref x2] σ ((f_Rn_scoreAll F σ x0 x1 x2).bind am_kV) := by
  refine am_Met.of (lv := [some (.ref x0), some (.ref x1), some (.ref x2), none, none, none, none, none]) (am_cc rfl (am_cc rfl (am_cc rfl am_c0))) (Nat.le_of_ble_eq_true rfl) rfl (by decide) ?_
  unfold f_Rn_scoreAll
  refine am_W.ck ?_
  refine aw_iconst 0 (v := 0) (kk := ?_)
  refine aw_istore_n 3 (kk := ?_)
  exact am_W.drop [true, true, true, true, false, false, false, false] (b_Rn_scoreAll_l2 F x0 x1 x2 F 0 σ)
def f_Rn_bestFreePair_l40 (σ : am_S) (F : Nat) (x0 : Nat) (x3 : Int32) (x4 : Int32) (k101 : Int32 → Int32 → Option (Int32)) : Nat → Int32 → Int32 → Int32 → Option (Int32)
  | 0, _, _, _ => none
  | n + 1, x1, x2, x5 =>
    (am_gI σ 5 8 x0).bind fun v7 =>
    if v7 ≤ x5 then
      k101 x1 x2
    else
      if x4 = 0 then
        k101 x1 x2
      else
        (am_gA σ 5 3 x0).bind fun v8 =>
        (am_lI σ .boolean v8 x5).bind fun v9 =>
        if v9 = 0 then
          (am_gA σ 5 4 x0).bind fun v10 =>
          (am_lI σ .int v10 ((x3 * 50) + x5)).bind fun v11 =>
          if v11 ≤ x2 then
            f_Rn_bestFreePair_l40 σ F x0 x3 x4 k101 n x1 x2 (x5 + 1)
          else
            (am_gA σ 5 4 x0).bind fun v12 =>
            (am_lI σ .int v12 ((x3 * 50) + x5)).bind fun v13 =>
            f_Rn_bestFreePair_l40 σ F x0 x3 x4 k101 n ((x3 * 50) + x5) v13 (x5 + 1)
        else
          f_Rn_bestFreePair_l40 σ F x0 x3 x4 k101 n x1 x2 (x5 + 1)
theorem b_Rn_bestFreePair_l40 {g : am_G} {σ0 σ : am_S} (F : Nat) (x0 : Nat) (x3 : Int32) (x4 : Int32) (k101 : Int32 → Int32 → Option (Int32)) (h101 : ∀ (y1 : Int32) (y2 : Int32), am_W g mx_Rn_bestFreePair σ0 101 [some (.ref x0), some (.int y1), some (.int y2), some (.int x3), none, none, none] [] σ (k101 y1 y2) (am_kPI σ)) : ∀ (n : Nat) (x1 : Int32) (x2 : Int32) (x5 : Int32), am_W g mx_Rn_bestFreePair σ0 40 [some (.ref x0), some (.int x1), some (.int x2), some (.int x3), some (.int x4), some (.int x5), none] [] σ (f_Rn_bestFreePair_l40 σ F x0 x3 x4 k101 n x1 x2 x5) (am_kPI σ) := by
  intro n
  induction n with
  | zero =>
    intro x1 x2 x5
    rw [f_Rn_bestFreePair_l40]
    exact am_W.none
  | succ n ih =>
    intro x1 x2 x5
    rw [f_Rn_bestFreePair_l40]
    refine aw_iload 5 (kk := ?_)
    refine aw_aload_n 0 (kk := ?_)
    refine aw_gI 5 8 43 (hw := wd_156) (kk := fun v7 => ?_)
    refine aw_icmp_ge 55 101 (kt := fun _ => ?_) (kf := fun _ => ?_)
    · exact am_W.drop [true, true, true, true, false, false, false] (h101 x1 x2)
    · refine aw_iload 4 (kk := ?_)
      refine aw_if_eq 50 101 (kt := fun _ => ?_) (kf := fun _ => ?_)
      · exact am_W.drop [true, true, true, true, false, false, false] (h101 x1 x2)
      · refine aw_iload_n 3 (kk := ?_)
        refine aw_bipush 50 (v := 50) (kk := ?_)
        refine aw_imul (kk := ?_)
        refine aw_iload 5 (kk := ?_)
        refine aw_iadd (kk := ?_)
        refine aw_istore 6 (kk := ?_)
        refine aw_aload_n 0 (kk := ?_)
        refine aw_gA 5 3 18 (hw := wd_151) (kk := fun v8 => ?_)
        refine aw_iload 5 (kk := ?_)
        refine aw_lZ (kk := fun v9 => ?_)
        refine aw_if_ne 25 95 (kt := fun _ => ?_) (kf := fun _ => ?_)
        · refine aw_iinc 5 1 (v := 1) (kk := ?_)
          refine aw_goto (-58) 40 (kk := ?_)
          exact am_W.drop [true, true, true, true, true, true, false] (ih x1 x2 (x5 + 1))
        · refine aw_aload_n 0 (kk := ?_)
          refine aw_gA 5 4 22 (hw := wd_152) (kk := fun v10 => ?_)
          refine aw_iload 6 (kk := ?_)
          refine aw_lI (kk := fun v11 => ?_)
          refine aw_iload_n 2 (kk := ?_)
          refine aw_icmp_le 14 95 (kt := fun _ => ?_) (kf := fun _ => ?_)
          · refine aw_iinc 5 1 (v := 1) (kk := ?_)
            refine aw_goto (-58) 40 (kk := ?_)
            exact am_W.drop [true, true, true, true, true, true, false] (ih x1 x2 (x5 + 1))
          · refine aw_iload 6 (kk := ?_)
            refine aw_istore_n 1 (kk := ?_)
            refine aw_aload_n 0 (kk := ?_)
            refine aw_gA 5 4 22 (hw := wd_152) (kk := fun v12 => ?_)
            refine aw_iload 6 (kk := ?_)
            refine aw_lI (kk := fun v13 => ?_)
            refine aw_istore_n 2 (kk := ?_)
            refine aw_iinc 5 1 (v := 1) (kk := ?_)
            refine aw_goto (-58) 40 (kk := ?_)
            exact am_W.drop [true, true, true, true, true, true, false] (ih ((x3 * 50) + x5) v13 (x5 + 1))
def f_Rn_bestFreePair_j101 (σ : am_S) (F : Nat) (x1 : Int32) (x2 : Int32) (x3 : Int32) (k8 : Int32 → Int32 → Int32 → Option (Int32)) : Option (Int32) :=
  k8 x1 x2 (x3 + 1)
theorem b_Rn_bestFreePair_j101 {g : am_G} {σ0 σ : am_S} (F : Nat) (x0 : Nat) (x1 : Int32) (x2 : Int32) (x3 : Int32) (k8 : Int32 → Int32 → Int32 → Option (Int32)) (h8 : ∀ (y1 : Int32) (y2 : Int32) (y3 : Int32), am_W g mx_Rn_bestFreePair σ0 8 [some (.ref x0), some (.int y1), some (.int y2), some (.int y3), none, none, none] [] σ (k8 y1 y2 y3) (am_kPI σ)) : am_W g mx_Rn_bestFreePair σ0 101 [some (.ref x0), some (.int x1), some (.int x2), some (.int x3), none, none, none] [] σ (f_Rn_bestFreePair_j101 σ F x1 x2 x3 k8) (am_kPI σ) := by
  unfold f_Rn_bestFreePair_j101
  refine aw_iinc 3 1 (v := 1) (kk := ?_)
  refine aw_goto (-96) 8 (kk := ?_)
  exact am_W.drop [true, true, true, true, false, false, false] (h8 x1 x2 (x3 + 1))
def f_Rn_bestFreePair_j35 (σ : am_S) (F : Nat) (x0 : Nat) (x1 : Int32) (x2 : Int32) (x3 : Int32) (t6 : Int32) (k8 : Int32 → Int32 → Int32 → Option (Int32)) : Option (Int32) :=
  f_Rn_bestFreePair_l40 σ F x0 x3 t6 (fun y1 y2 => f_Rn_bestFreePair_j101 σ F y1 y2 x3 (fun y1 y2 y3 => k8 y1 y2 y3)) F x1 x2 0
theorem b_Rn_bestFreePair_j35 {g : am_G} {σ0 σ : am_S} (F : Nat) (x0 : Nat) (x1 : Int32) (x2 : Int32) (x3 : Int32) (t6 : Int32) (k8 : Int32 → Int32 → Int32 → Option (Int32)) (h8 : ∀ (y1 : Int32) (y2 : Int32) (y3 : Int32), am_W g mx_Rn_bestFreePair σ0 8 [some (.ref x0), some (.int y1), some (.int y2), some (.int y3), none, none, none] [] σ (k8 y1 y2 y3) (am_kPI σ)) : am_W g mx_Rn_bestFreePair σ0 35 [some (.ref x0), some (.int x1), some (.int x2), some (.int x3), none, none, none] [.int t6] σ (f_Rn_bestFreePair_j35 σ F x0 x1 x2 x3 t6 k8) (am_kPI σ) := by
  unfold f_Rn_bestFreePair_j35
  refine aw_istore 4 (kk := ?_)
  refine aw_iconst 0 (v := 0) (kk := ?_)
  refine aw_istore 5 (kk := ?_)
  exact am_W.drop [true, true, true, true, true, true, false] (b_Rn_bestFreePair_l40 F x0 x3 t6 (fun y1 y2 => f_Rn_bestFreePair_j101 σ F y1 y2 x3 (fun y1 y2 y3 => k8 y1 y2 y3)) (fun y1 y2 => am_W.drop [true, true, true, true, false, false, false] (b_Rn_bestFreePair_j101 F x0 y1 y2 x3 (fun y1 y2 y3 => k8 y1 y2 y3) (fun y1 y2 y3 => am_W.drop [true, true, true, true, false, false, false] (h8 y1 y2 y3)))) F x1 x2 0)
def f_Rn_bestFreePair_l8 (σ : am_S) (F : Nat) (x0 : Nat)  : Nat → Int32 → Int32 → Int32 → Option (Int32)
  | 0, _, _, _ => none
  | n + 1, x1, x2, x3 =>
    (am_gI σ 5 7 x0).bind fun v1 =>
    if v1 ≤ x3 then
      some x1
    else
      (am_gA σ 5 5 x0).bind fun v2 =>
      (am_gA σ 5 1 x0).bind fun v3 =>
      (am_lI σ .int v3 x3).bind fun v4 =>
      (am_lI σ .int v2 v4).bind fun v5 =>
      if 0 ≤ v5 then
        f_Rn_bestFreePair_j35 σ F x0 x1 x2 x3 0 (fun y1 y2 y3 => f_Rn_bestFreePair_l8 σ F x0 n y1 y2 y3)
      else
        f_Rn_bestFreePair_j35 σ F x0 x1 x2 x3 1 (fun y1 y2 y3 => f_Rn_bestFreePair_l8 σ F x0 n y1 y2 y3)
theorem b_Rn_bestFreePair_l8 {g : am_G} {σ0 σ : am_S} (F : Nat) (x0 : Nat)   : ∀ (n : Nat) (x1 : Int32) (x2 : Int32) (x3 : Int32), am_W g mx_Rn_bestFreePair σ0 8 [some (.ref x0), some (.int x1), some (.int x2), some (.int x3), none, none, none] [] σ (f_Rn_bestFreePair_l8 σ F x0 n x1 x2 x3) (am_kPI σ) := by
  intro n
  induction n with
  | zero =>
    intro x1 x2 x3
    rw [f_Rn_bestFreePair_l8]
    exact am_W.none
  | succ n ih =>
    intro x1 x2 x3
    rw [f_Rn_bestFreePair_l8]
    refine aw_iload_n 3 (kk := ?_)
    refine aw_aload_n 0 (kk := ?_)
    refine aw_gI 5 7 35 (hw := wd_155) (kk := fun v1 => ?_)
    refine aw_icmp_ge 94 107 (kt := fun _ => ?_) (kf := fun _ => ?_)
    · refine aw_iload_n 1 (kk := ?_)
      exact aw_iretP
    · refine aw_aload_n 0 (kk := ?_)
      refine aw_gA 5 5 25 (hw := wd_153) (kk := fun v2 => ?_)
      refine aw_aload_n 0 (kk := ?_)
      refine aw_gA 5 1 9 (hw := wd_149) (kk := fun v3 => ?_)
      refine aw_iload_n 3 (kk := ?_)
      refine aw_lI (kk := fun v4 => ?_)
      refine aw_lI (kk := fun v5 => ?_)
      refine aw_if_ge 7 34 (kt := fun _ => ?_) (kf := fun _ => ?_)
      · refine aw_iconst 0 (v := 0) (kk := ?_)
        exact am_W.drop [true, true, true, true, false, false, false] (b_Rn_bestFreePair_j35 F x0 x1 x2 x3 0 (fun y1 y2 y3 => f_Rn_bestFreePair_l8 σ F x0 n y1 y2 y3) (fun y1 y2 y3 => am_W.drop [true, true, true, true, false, false, false] (ih y1 y2 y3)))
      · refine aw_iconst 1 (v := 1) (kk := ?_)
        refine aw_goto 4 35 (kk := ?_)
        exact am_W.drop [true, true, true, true, false, false, false] (b_Rn_bestFreePair_j35 F x0 x1 x2 x3 1 (fun y1 y2 y3 => f_Rn_bestFreePair_l8 σ F x0 n y1 y2 y3) (fun y1 y2 y3 => am_W.drop [true, true, true, true, false, false, false] (ih y1 y2 y3)))
def f_Rn_bestFreePair (F : Nat) (σ : am_S) (x0 : Nat) : Option (Int32) :=
  am_ck σ 5 x0 (
  f_Rn_bestFreePair_l8 σ F x0 F (-1) 499 0)
theorem rc_Rn_bestFreePair {F : Nat} {σ : am_S} {x0 : Nat} (h : (f_Rn_bestFreePair F σ x0).isSome = true) : ∃ fs, σ.2.2 x0 = some (.inr (5, fs)) := am_ck_some h
theorem m_Rn_bestFreePair (g : am_G) (F : Nat) (σ : am_S) (x0 : Nat) : am_Met g mx_Rn_bestFreePair [.ref x0] σ ((f_Rn_bestFreePair F σ x0).bind (am_kPI σ)) := by
  refine am_Met.of (lv := [some (.ref x0), none, none, none, none, none, none]) (am_cc rfl am_c0) (Nat.le_of_ble_eq_true rfl) rfl (by decide) ?_
  unfold f_Rn_bestFreePair
  refine am_W.ck ?_
  refine aw_iconst (-1) (v := (-1)) (kk := ?_)
  refine aw_istore_n 1 (kk := ?_)
  refine aw_sipush 499 (v := 499) (kk := ?_)
  refine aw_istore_n 2 (kk := ?_)
  refine aw_iconst 0 (v := 0) (kk := ?_)
  refine aw_istore_n 3 (kk := ?_)
  exact am_W.drop [true, true, true, true, false, false, false] (b_Rn_bestFreePair_l8 F x0 F (-1) 499 0)
def f_Rn_pairByScore_l2 (F : Nat) (x0 : Nat)  : Nat → Int32 → am_S → Option (am_S)
  | 0, _, _ => none
  | n + 1, x1, σ =>
    (am_gI σ 5 7 x0).bind fun v1 =>
    if v1 ≤ x1 then
      some σ
    else
      (f_Rn_bestFreePair F σ x0).bind fun v2 =>
      if 0 ≤ v2 then
        (am_gA σ 5 4 x0).bind fun v3 =>
        (am_lI σ .int v3 v2).bind fun v4 =>
        (f_Rn_join F σ x0 (v2 / 50) (am_rem v2 50) v4).bind fun σ5 =>
        f_Rn_pairByScore_l2 F x0 n (x1 + 1) σ5
      else
        some σ
theorem b_Rn_pairByScore_l2 {g : am_G} {σ0 : am_S} (F : Nat) (x0 : Nat)   : ∀ (n : Nat) (x1 : Int32) (σ : am_S), am_W g mx_Rn_pairByScore σ0 2 [some (.ref x0), some (.int x1), none] [] σ (f_Rn_pairByScore_l2 F x0 n x1 σ) am_kV := by
  intro n
  induction n with
  | zero =>
    intro x1 σ
    rw [f_Rn_pairByScore_l2]
    exact am_W.none
  | succ n ih =>
    intro x1 σ
    rw [f_Rn_pairByScore_l2]
    refine aw_iload_n 1 (kk := ?_)
    refine aw_aload_n 0 (kk := ?_)
    refine aw_gI 5 7 35 (hw := wd_155) (kk := fun v1 => ?_)
    refine aw_icmp_ge 37 44 (kt := fun _ => ?_) (kf := fun _ => ?_)
    · exact aw_vret
    · refine aw_aload_n 0 (kk := ?_)
      refine ac_PI (st := []) [.ref x0] (ag_V 93 5 rc_Rn_bestFreePair wd_754 cal_Rn_bestFreePair wd_756 ws_25) cal_Rn_bestFreePair ⟨by decide, by decide⟩ (Nat.le_of_ble_eq_true rfl) (m_Rn_bestFreePair g F σ x0) (fun v2 => ?_)
      refine aw_istore_n 2 (kk := ?_)
      refine aw_iload_n 2 (kk := ?_)
      refine aw_if_ge 4 20 (kt := fun _ => ?_) (kf := fun _ => ?_)
      · refine aw_aload_n 0 (kk := ?_)
        refine aw_iload_n 2 (kk := ?_)
        refine aw_bipush 50 (v := 50) (kk := ?_)
        refine aw_idiv (hy := by decide) (kk := ?_)
        refine aw_iload_n 2 (kk := ?_)
        refine aw_bipush 50 (v := 50) (kk := ?_)
        refine aw_irem (hy := by decide) (kk := ?_)
        refine aw_aload_n 0 (kk := ?_)
        refine aw_gA 5 4 22 (hw := wd_152) (kk := fun v3 => ?_)
        refine aw_iload_n 2 (kk := ?_)
        refine aw_lI (kk := fun v4 => ?_)
        refine ac_V (st := []) [.ref x0, .int (v2 / 50), .int (am_rem v2 50), .int v4] (ag_V 85 5 rc_Rn_join wd_727 cal_Rn_join wd_729 ws_21) cal_Rn_join ⟨by decide, by decide⟩ (Nat.le_of_ble_eq_true rfl) (m_Rn_join g F σ x0 (v2 / 50) (am_rem v2 50) v4) (fun σ5 => ?_)
        refine aw_iinc 1 1 (v := 1) (kk := ?_)
        refine aw_goto (-39) 2 (kk := ?_)
        exact am_W.drop [true, true, false] (ih (x1 + 1) σ5)
      · exact aw_vret
def f_Rn_pairByScore (F : Nat) (σ : am_S) (x0 : Nat) : Option (am_S) :=
  am_ck σ 5 x0 (
  f_Rn_pairByScore_l2 F x0 F 0 σ)
theorem rc_Rn_pairByScore {F : Nat} {σ : am_S} {x0 : Nat} (h : (f_Rn_pairByScore F σ x0).isSome = true) : ∃ fs, σ.2.2 x0 = some (.inr (5, fs)) := am_ck_some h
theorem m_Rn_pairByScore (g : am_G) (F : Nat) (σ : am_S) (x0 : Nat) : am_Met g mx_Rn_pairByScore [.ref x0] σ ((f_Rn_pairByScore F σ x0).bind am_kV) := by
  refine am_Met.of (lv := [some (.ref x0), none, none]) (am_cc rfl am_c0) (Nat.le_of_ble_eq_true rfl) rfl (by decide) ?_
  unfold f_Rn_pairByScore
  refine am_W.ck ?_
  refine aw_iconst 0 (v := 0) (kk := ?_)
  refine aw_istore_n 1 (kk := ?_)
  exact am_W.drop [true, true, false] (b_Rn_pairByScore_l2 F x0 F 0 σ)
def f_Rn_search_j24 (F : Nat) (x0 : Nat) (x1 : Nat) (x2 : Nat)  (σ : am_S) : Option (am_S) :=
  (f_Rn_pairSameBlobs F σ x0 x1 x2).bind fun σ3 =>
  some σ3
theorem b_Rn_search_j24 {g : am_G} {σ0 : am_S} (F : Nat) (x0 : Nat) (x1 : Nat) (x2 : Nat)   (σ : am_S) : am_W g mx_Rn_search σ0 24 [some (.ref x0), some (.ref x1), some (.ref x2)] [] σ (f_Rn_search_j24 F x0 x1 x2 σ) am_kV := by
  unfold f_Rn_search_j24
  refine aw_aload_n 0 (kk := ?_)
  refine aw_aload_n 1 (kk := ?_)
  refine aw_aload_n 2 (kk := ?_)
  refine ac_V (st := []) [.ref x0, .ref x1, .ref x2] (ag_V 46 5 rc_Rn_pairSameBlobs wd_718 cal_Rn_pairSameBlobs wd_720 ws_20) cal_Rn_pairSameBlobs ⟨by decide, by decide⟩ (Nat.le_of_ble_eq_true rfl) (m_Rn_pairSameBlobs g F σ x0 x1 x2) (fun σ3 => ?_)
  refine aw_goto 13 43 (kk := ?_)
  exact aw_vret
def f_Rn_search (F : Nat) (σ : am_S) (x0 : Nat) (x1 : Nat) (x2 : Nat) : Option (am_S) :=
  am_ck σ 5 x0 (
  (f_Rn_listChanges F σ x0 x1 x2).bind fun σ1 =>
  (am_gI σ1 5 7 x0).bind fun v2 =>
  if 50 < v2 then
    f_Rn_search_j24 F x0 x1 x2 σ1
  else
    (am_gI σ1 5 8 x0).bind fun v4 =>
    if v4 ≤ 50 then
      (f_Rn_scoreAll F σ1 x0 x1 x2).bind fun σ5 =>
      (f_Rn_pairByScore F σ5 x0).bind fun σ6 =>
      some σ6
    else
      f_Rn_search_j24 F x0 x1 x2 σ1)
theorem rc_Rn_search {F : Nat} {σ : am_S} {x0 : Nat} {x1 : Nat} {x2 : Nat} (h : (f_Rn_search F σ x0 x1 x2).isSome = true) : ∃ fs, σ.2.2 x0 = some (.inr (5, fs)) := am_ck_some h
theorem m_Rn_search (g : am_G) (F : Nat) (σ : am_S) (x0 : Nat) (x1 : Nat) (x2 : Nat) : am_Met g mx_Rn_search [.ref x0, .ref x1, .ref x2] σ ((f_Rn_search F σ x0 x1 x2).bind am_kV) := by
  refine am_Met.of (lv := [some (.ref x0), some (.ref x1), some (.ref x2)]) (am_cc rfl (am_cc rfl (am_cc rfl am_c0))) (Nat.le_of_ble_eq_true rfl) rfl (by decide) ?_
  unfold f_Rn_search
  refine am_W.ck ?_
  refine aw_aload_n 0 (kk := ?_)
  refine aw_aload_n 1 (kk := ?_)
  refine aw_aload_n 2 (kk := ?_)
  refine ac_V (st := []) [.ref x0, .ref x1, .ref x2] (ag_V 39 5 rc_Rn_listChanges wd_698 cal_Rn_listChanges wd_700 ws_17) cal_Rn_listChanges ⟨by decide, by decide⟩ (Nat.le_of_ble_eq_true rfl) (m_Rn_listChanges g F σ x0 x1 x2) (fun σ1 => ?_)
  refine aw_aload_n 0 (kk := ?_)
  refine aw_gI 5 7 35 (hw := wd_155) (kk := fun v2 => ?_)
  refine aw_bipush 50 (v := 50) (kk := ?_)
  refine aw_icmp_gt 12 24 (kt := fun _ => ?_) (kf := fun _ => ?_)
  · exact am_W.drop [true, true, true] (b_Rn_search_j24 F x0 x1 x2 σ1)
  · refine aw_aload_n 0 (kk := ?_)
    refine aw_gI 5 8 43 (hw := wd_156) (kk := fun v4 => ?_)
    refine aw_bipush 50 (v := 50) (kk := ?_)
    refine aw_icmp_le 12 33 (kt := fun _ => ?_) (kf := fun _ => ?_)
    · refine aw_aload_n 0 (kk := ?_)
      refine aw_aload_n 1 (kk := ?_)
      refine aw_aload_n 2 (kk := ?_)
      refine ac_V (st := []) [.ref x0, .ref x1, .ref x2] (ag_V 49 5 rc_Rn_scoreAll wd_731 cal_Rn_scoreAll wd_733 ws_22) cal_Rn_scoreAll ⟨by decide, by decide⟩ (Nat.le_of_ble_eq_true rfl) (m_Rn_scoreAll g F σ1 x0 x1 x2) (fun σ5 => ?_)
      refine aw_aload_n 0 (kk := ?_)
      refine ac_V (st := []) [.ref x0] (ag_V 52 5 rc_Rn_pairByScore wd_750 cal_Rn_pairByScore wd_752 ws_24) cal_Rn_pairByScore ⟨by decide, by decide⟩ (Nat.le_of_ble_eq_true rfl) (m_Rn_pairByScore g F σ5 x0) (fun σ6 => ?_)
      exact aw_vret
    · exact am_W.drop [true, true, true] (b_Rn_search_j24 F x0 x1 x2 σ1)
def f_Rn_partnerOf (F : Nat) (σ : am_S) (x0 : Nat) (x1 : Int32) : Option (Int32) :=
  am_ck σ 5 x0 (
  (am_gA σ 5 5 x0).bind fun v1 =>
  (am_lI σ .int v1 x1).bind fun v2 =>
  some v2)
theorem rc_Rn_partnerOf {F : Nat} {σ : am_S} {x0 : Nat} {x1 : Int32} (h : (f_Rn_partnerOf F σ x0 x1).isSome = true) : ∃ fs, σ.2.2 x0 = some (.inr (5, fs)) := am_ck_some h
theorem m_Rn_partnerOf (g : am_G) (F : Nat) (σ : am_S) (x0 : Nat) (x1 : Int32) : am_Met g mx_Rn_partnerOf [.ref x0, .int x1] σ ((f_Rn_partnerOf F σ x0 x1).bind (am_kPI σ)) := by
  refine am_Met.of (lv := [some (.ref x0), some (.int x1)]) (am_cc rfl (am_cc rfl am_c0)) (Nat.le_of_ble_eq_true rfl) rfl (by decide) ?_
  unfold f_Rn_partnerOf
  refine am_W.ck ?_
  refine aw_aload_n 0 (kk := ?_)
  refine aw_gA 5 5 25 (hw := wd_153) (kk := fun v1 => ?_)
  refine aw_iload_n 1 (kk := ?_)
  refine aw_lI (kk := fun v2 => ?_)
  exact aw_iretP
def f_Rn_goneOfRename_l4 (σ : am_S) (F : Nat) (x0 : Nat) (x1 : Int32)  : Nat → Int32 → Int32 → Option (Int32)
  | 0, _, _ => none
  | n + 1, x2, x3 =>
    (am_gI σ 5 7 x0).bind fun v1 =>
    if v1 ≤ x3 then
      some (-1)
    else
      (am_gA σ 5 5 x0).bind fun v2 =>
      (am_gA σ 5 1 x0).bind fun v3 =>
      (am_lI σ .int v3 x3).bind fun v4 =>
      (am_lI σ .int v2 v4).bind fun v5 =>
      if v5 < 0 then
        f_Rn_goneOfRename_l4 σ F x0 x1 n x2 (x3 + 1)
      else
        if x2 = x1 then
          (am_gA σ 5 1 x0).bind fun v6 =>
          (am_lI σ .int v6 x3).bind fun v7 =>
          some v7
        else
          f_Rn_goneOfRename_l4 σ F x0 x1 n (x2 + 1) (x3 + 1)
theorem b_Rn_goneOfRename_l4 {g : am_G} {σ0 σ : am_S} (F : Nat) (x0 : Nat) (x1 : Int32)   : ∀ (n : Nat) (x2 : Int32) (x3 : Int32), am_W g mx_Rn_goneOfRename σ0 4 [some (.ref x0), some (.int x1), some (.int x2), some (.int x3)] [] σ (f_Rn_goneOfRename_l4 σ F x0 x1 n x2 x3) (am_kPI σ) := by
  intro n
  induction n with
  | zero =>
    intro x2 x3
    rw [f_Rn_goneOfRename_l4]
    exact am_W.none
  | succ n ih =>
    intro x2 x3
    rw [f_Rn_goneOfRename_l4]
    refine aw_iload_n 3 (kk := ?_)
    refine aw_aload_n 0 (kk := ?_)
    refine aw_gI 5 7 35 (hw := wd_155) (kk := fun v1 => ?_)
    refine aw_icmp_ge 38 47 (kt := fun _ => ?_) (kf := fun _ => ?_)
    · refine aw_iconst (-1) (v := (-1)) (kk := ?_)
      exact aw_iretP
    · refine aw_aload_n 0 (kk := ?_)
      refine aw_gA 5 5 25 (hw := wd_153) (kk := fun v2 => ?_)
      refine aw_aload_n 0 (kk := ?_)
      refine aw_gA 5 1 9 (hw := wd_149) (kk := fun v3 => ?_)
      refine aw_iload_n 3 (kk := ?_)
      refine aw_lI (kk := fun v4 => ?_)
      refine aw_lI (kk := fun v5 => ?_)
      refine aw_if_lt 18 41 (kt := fun _ => ?_) (kf := fun _ => ?_)
      · refine aw_iinc 3 1 (v := 1) (kk := ?_)
        refine aw_goto (-40) 4 (kk := ?_)
        exact am_W.drop [true, true, true, true] (ih x2 (x3 + 1))
      · refine aw_iload_n 2 (kk := ?_)
        refine aw_iload_n 1 (kk := ?_)
        refine aw_icmp_ne 10 38 (kt := fun _ => ?_) (kf := fun _ => ?_)
        · refine aw_iinc 2 1 (v := 1) (kk := ?_)
          refine aw_iinc 3 1 (v := 1) (kk := ?_)
          refine aw_goto (-40) 4 (kk := ?_)
          exact am_W.drop [true, true, true, true] (ih (x2 + 1) (x3 + 1))
        · refine aw_aload_n 0 (kk := ?_)
          refine aw_gA 5 1 9 (hw := wd_149) (kk := fun v6 => ?_)
          refine aw_iload_n 3 (kk := ?_)
          refine aw_lI (kk := fun v7 => ?_)
          exact aw_iretP
def f_Rn_goneOfRename (F : Nat) (σ : am_S) (x0 : Nat) (x1 : Int32) : Option (Int32) :=
  am_ck σ 5 x0 (
  f_Rn_goneOfRename_l4 σ F x0 x1 F 0 0)
theorem rc_Rn_goneOfRename {F : Nat} {σ : am_S} {x0 : Nat} {x1 : Int32} (h : (f_Rn_goneOfRename F σ x0 x1).isSome = true) : ∃ fs, σ.2.2 x0 = some (.inr (5, fs)) := am_ck_some h
theorem m_Rn_goneOfRename (g : am_G) (F : Nat) (σ : am_S) (x0 : Nat) (x1 : Int32) : am_Met g mx_Rn_goneOfRename [.ref x0, .int x1] σ ((f_Rn_goneOfRename F σ x0 x1).bind (am_kPI σ)) := by
  refine am_Met.of (lv := [some (.ref x0), some (.int x1), none, none]) (am_cc rfl (am_cc rfl am_c0)) (Nat.le_of_ble_eq_true rfl) rfl (by decide) ?_
  unfold f_Rn_goneOfRename
  refine am_W.ck ?_
  refine aw_iconst 0 (v := 0) (kk := ?_)
  refine aw_istore_n 2 (kk := ?_)
  refine aw_iconst 0 (v := 0) (kk := ?_)
  refine aw_istore_n 3 (kk := ?_)
  exact am_W.drop [true, true, true, true] (b_Rn_goneOfRename_l4 F x0 x1 F 0 0)
def f_Rn_scoreOf (F : Nat) (σ : am_S) (x0 : Nat) (x1 : Int32) : Option (Int32) :=
  am_ck σ 5 x0 (
  (am_gA σ 5 6 x0).bind fun v1 =>
  (am_lI σ .int v1 x1).bind fun v2 =>
  some v2)
theorem rc_Rn_scoreOf {F : Nat} {σ : am_S} {x0 : Nat} {x1 : Int32} (h : (f_Rn_scoreOf F σ x0 x1).isSome = true) : ∃ fs, σ.2.2 x0 = some (.inr (5, fs)) := am_ck_some h
theorem m_Rn_scoreOf (g : am_G) (F : Nat) (σ : am_S) (x0 : Nat) (x1 : Int32) : am_Met g mx_Rn_scoreOf [.ref x0, .int x1] σ ((f_Rn_scoreOf F σ x0 x1).bind (am_kPI σ)) := by
  refine am_Met.of (lv := [some (.ref x0), some (.int x1)]) (am_cc rfl (am_cc rfl am_c0)) (Nat.le_of_ble_eq_true rfl) rfl (by decide) ?_
  unfold f_Rn_scoreOf
  refine am_W.ck ?_
  refine aw_aload_n 0 (kk := ?_)
  refine aw_gA 5 6 28 (hw := wd_154) (kk := fun v1 => ?_)
  refine aw_iload_n 1 (kk := ?_)
  refine aw_lI (kk := fun v2 => ?_)
  exact aw_iretP
