/-! ===== printed by wip/gen ===== -/
def f_Mg_init (F : Nat) (σ : am_S) (x0 : Nat) (x1 : Nat) (x2 : Nat) (x3 : Nat) (x4 : Nat) : Option (am_S) :=
  am_ck σ 6 x0 (
  am_b2 (am_na σ .boolean 400) fun a1 σ2 =>
  (am_pA σ2 6 6 x0 a1).bind fun σ3 =>
  am_b2 (am_na σ3 .boolean 400) fun a4 σ5 =>
  (am_pA σ5 6 7 x0 a4).bind fun σ6 =>
  am_b2 (am_na σ6 .int 1200) fun a7 σ8 =>
  (am_pA σ8 6 8 x0 a7).bind fun σ9 =>
  am_b2 (am_na σ9 .int 1200) fun a10 σ11 =>
  (am_pA σ11 6 9 x0 a10).bind fun σ12 =>
  am_b2 (am_na σ12 .int 1200) fun a13 σ14 =>
  (am_pA σ14 6 10 x0 a13).bind fun σ15 =>
  (am_pA σ15 6 0 x0 x1).bind fun σ16 =>
  (am_pA σ16 6 1 x0 x2).bind fun σ17 =>
  (am_pA σ17 6 2 x0 x3).bind fun σ18 =>
  (am_pA σ18 6 3 x0 x4).bind fun σ19 =>
  (f_Rn_init F (am_no σ19 5) σ19.1 x4).bind fun σ20 =>
  (am_pA σ20 6 4 x0 σ19.1).bind fun σ21 =>
  (f_Rn_init F (am_no σ21 5) σ21.1 x4).bind fun σ22 =>
  (am_pA σ22 6 5 x0 σ21.1).bind fun σ23 =>
  (f_Tm_init F (am_no σ23 7) σ23.1 x4).bind fun σ24 =>
  (am_pA σ24 6 11 x0 σ23.1).bind fun σ25 =>
  (f_Oc_init F (am_no σ25 9) σ25.1 x4).bind fun σ26 =>
  (am_pA σ26 6 13 x0 σ25.1).bind fun σ27 =>
  (f_Oc_init F (am_no σ27 9) σ27.1 x4).bind fun σ28 =>
  (am_pA σ28 6 14 x0 σ27.1).bind fun σ29 =>
  some σ29)
theorem rc_Mg_init {F : Nat} {σ : am_S} {x0 : Nat} {x1 : Nat} {x2 : Nat} {x3 : Nat} {x4 : Nat} (h : (f_Mg_init F σ x0 x1 x2 x3 x4).isSome = true) : ∃ fs, σ.2.2 x0 = some (.inr (6, fs)) := am_ck_some h
theorem m_Mg_init (g : am_G) (F : Nat) (σ : am_S) (x0 : Nat) (x1 : Nat) (x2 : Nat) (x3 : Nat) (x4 : Nat) : am_Met g mx_Mg_init [.ref x0, .ref x1, .ref x2, .ref x3, .ref x4] σ ((f_Mg_init F σ x0 x1 x2 x3 x4).bind am_kV) := by
  refine am_Met.of (lv := [some (.ref x0), some (.ref x1), some (.ref x2), some (.ref x3), some (.ref x4)]) (am_cc rfl (am_cc rfl (am_cc rfl (am_cc rfl (am_cc rfl am_c0))))) (Nat.le_of_ble_eq_true rfl) rfl (by decide) ?_
  unfold f_Mg_init
  refine am_W.ck ?_
  refine aw_aload_n 0 (kk := ?_)
  refine aw_obj 3 (hw := wd_181) (hw2 := wd_33) (hw3 := wd_34) (hr := Nat.le_of_ble_eq_true rfl) (kk := ?_)
  refine aw_aload_n 0 (kk := ?_)
  refine aw_sipush 400 (v := 400) (kk := ?_)
  refine aw_na2 .boolean (hw := wd_96) (kk := fun a1 σ2 => ?_)
  refine aw_pAF 6 6 9 (hw := wd_291) (kk := fun σ3 => ?_)
  refine aw_aload_n 0 (kk := ?_)
  refine aw_sipush 400 (v := 400) (kk := ?_)
  refine aw_na2 .boolean (hw := wd_96) (kk := fun a4 σ5 => ?_)
  refine aw_pAF 6 7 15 (hw := wd_292) (kk := fun σ6 => ?_)
  refine aw_aload_n 0 (kk := ?_)
  refine aw_sipush 1200 (v := 1200) (kk := ?_)
  refine aw_na2 .int (hw := wd_55) (kk := fun a7 σ8 => ?_)
  refine aw_pAF 6 8 18 (hw := wd_293) (kk := fun σ9 => ?_)
  refine aw_aload_n 0 (kk := ?_)
  refine aw_sipush 1200 (v := 1200) (kk := ?_)
  refine aw_na2 .int (hw := wd_55) (kk := fun a10 σ11 => ?_)
  refine aw_pAF 6 9 22 (hw := wd_294) (kk := fun σ12 => ?_)
  refine aw_aload_n 0 (kk := ?_)
  refine aw_sipush 1200 (v := 1200) (kk := ?_)
  refine aw_na2 .int (hw := wd_55) (kk := fun a13 σ14 => ?_)
  refine aw_pAF 6 10 25 (hw := wd_295) (kk := fun σ15 => ?_)
  refine aw_aload_n 0 (kk := ?_)
  refine aw_aload_n 1 (kk := ?_)
  refine aw_pAF 6 0 28 (hw := wd_285) (kk := fun σ16 => ?_)
  refine aw_aload_n 0 (kk := ?_)
  refine aw_aload_n 2 (kk := ?_)
  refine aw_pAF 6 1 32 (hw := wd_286) (kk := fun σ17 => ?_)
  refine aw_aload_n 0 (kk := ?_)
  refine aw_aload_n 3 (kk := ?_)
  refine aw_pAF 6 2 35 (hw := wd_287) (kk := fun σ18 => ?_)
  refine aw_aload_n 0 (kk := ?_)
  refine aw_aload 4 (kk := ?_)
  refine aw_pAF 6 3 38 (hw := wd_288) (kk := fun σ19 => ?_)
  refine aw_aload_n 0 (kk := ?_)
  refine aw_new 5 42 (hw := wd_182) (hw2 := wd_143) (hw3 := wd_6) (kk := ?_)
  refine aw_dup (kk := ?_)
  refine aw_aload 4 (kk := ?_)
  refine ac_V (st := [.ref σ19.1, .ref x0]) [.ref σ19.1, .ref x4] (ag_I 44 wd_183 cal_Rn_init wd_145) cal_Rn_init ⟨by decide, by decide⟩ (Nat.le_of_ble_eq_true rfl) (m_Rn_init g F (am_no σ19 5) σ19.1 x4) (fun σ20 => ?_)
  refine aw_pAF 6 4 47 (hw := wd_289) (kk := fun σ21 => ?_)
  refine aw_aload_n 0 (kk := ?_)
  refine aw_new 5 42 (hw := wd_182) (hw2 := wd_143) (hw3 := wd_6) (kk := ?_)
  refine aw_dup (kk := ?_)
  refine aw_aload 4 (kk := ?_)
  refine ac_V (st := [.ref σ21.1, .ref x0]) [.ref σ21.1, .ref x4] (ag_I 44 wd_183 cal_Rn_init wd_145) cal_Rn_init ⟨by decide, by decide⟩ (Nat.le_of_ble_eq_true rfl) (m_Rn_init g F (am_no σ21 5) σ21.1 x4) (fun σ22 => ?_)
  refine aw_pAF 6 5 51 (hw := wd_290) (kk := fun σ23 => ?_)
  refine aw_aload_n 0 (kk := ?_)
  refine aw_new 7 54 (hw := wd_184) (hw2 := wd_185) (hw3 := wd_8) (kk := ?_)
  refine aw_dup (kk := ?_)
  refine aw_aload 4 (kk := ?_)
  refine ac_V (st := [.ref σ23.1, .ref x0]) [.ref σ23.1, .ref x4] (ag_I 56 wd_186 cal_Tm_init wd_187) cal_Tm_init ⟨by decide, by decide⟩ (Nat.le_of_ble_eq_true rfl) (m_Tm_init g F (am_no σ23 7) σ23.1 x4) (fun σ24 => ?_)
  refine aw_pAF 6 11 57 (hw := wd_296) (kk := fun σ25 => ?_)
  refine aw_aload_n 0 (kk := ?_)
  refine aw_new 9 61 (hw := wd_245) (hw2 := wd_246) (hw3 := wd_10) (kk := ?_)
  refine aw_dup (kk := ?_)
  refine aw_aload 4 (kk := ?_)
  refine ac_V (st := [.ref σ25.1, .ref x0]) [.ref σ25.1, .ref x4] (ag_I 63 wd_247 cal_Oc_init wd_248) cal_Oc_init ⟨by decide, by decide⟩ (Nat.le_of_ble_eq_true rfl) (m_Oc_init g F (am_no σ25 9) σ25.1 x4) (fun σ26 => ?_)
  refine aw_pA 6 13 64 (hw := wd_298) (kk := fun σ27 => ?_)
  refine aw_aload_n 0 (kk := ?_)
  refine aw_new 9 61 (hw := wd_245) (hw2 := wd_246) (hw3 := wd_10) (kk := ?_)
  refine aw_dup (kk := ?_)
  refine aw_aload 4 (kk := ?_)
  refine ac_V (st := [.ref σ27.1, .ref x0]) [.ref σ27.1, .ref x4] (ag_I 63 wd_247 cal_Oc_init wd_248) cal_Oc_init ⟨by decide, by decide⟩ (Nat.le_of_ble_eq_true rfl) (m_Oc_init g F (am_no σ27 9) σ27.1 x4) (fun σ28 => ?_)
  refine aw_pA 6 14 68 (hw := wd_299) (kk := fun σ29 => ?_)
  exact aw_vret
def f_Mg_listGroup_j51 (F : Nat) (x0 : Nat) (x3 : Int32)  (σ : am_S) : Option (am_S) :=
  if x3 < 0 then
    some σ
  else
    (am_gA σ 6 7 x0).bind fun v12 =>
    (am_sZ σ v12 x3 1).bind fun σ13 =>
    some σ13
theorem b_Mg_listGroup_j51 {g : am_G} {σ0 : am_S} (F : Nat) (x0 : Nat) (x3 : Int32)   (σ : am_S) : am_W g mx_Mg_listGroup σ0 51 [some (.ref x0), none, none, some (.int x3)] [] σ (f_Mg_listGroup_j51 F x0 x3 σ) am_kV := by
  unfold f_Mg_listGroup_j51
  refine aw_iload_n 3 (kk := ?_)
  refine aw_if_lt 10 62 (kt := fun _ => ?_) (kf := fun _ => ?_)
  · exact aw_vret
  · refine aw_aload_n 0 (kk := ?_)
    refine aw_gA 6 7 15 (hw := wd_292) (kk := fun v12 => ?_)
    refine aw_iload_n 3 (kk := ?_)
    refine aw_iconst 1 (v := 1) (kk := ?_)
    refine aw_sZ (kk := fun σ13 => ?_)
    exact aw_vret
def f_Mg_listGroup (F : Nat) (σ : am_S) (x0 : Nat) (x1 : Int32) (x2 : Int32) (x3 : Int32) : Option (am_S) :=
  am_ck σ 6 x0 (
  (am_gA σ 6 8 x0).bind fun v1 =>
  (am_gI σ 6 12 x0).bind fun v2 =>
  (am_sI σ v1 v2 x1).bind fun σ3 =>
  (am_gA σ3 6 9 x0).bind fun v4 =>
  (am_gI σ3 6 12 x0).bind fun v5 =>
  (am_sI σ3 v4 v5 x2).bind fun σ6 =>
  (am_gA σ6 6 10 x0).bind fun v7 =>
  (am_gI σ6 6 12 x0).bind fun v8 =>
  (am_sI σ6 v7 v8 x3).bind fun σ9 =>
  (am_gI σ9 6 12 x0).bind fun v10 =>
  (am_pI σ9 6 12 x0 (v10 + 1)).bind fun σ11 =>
  if x2 < 0 then
    f_Mg_listGroup_j51 F x0 x3 σ11
  else
    (am_gA σ11 6 6 x0).bind fun v14 =>
    (am_sZ σ11 v14 x2 1).bind fun σ15 =>
    f_Mg_listGroup_j51 F x0 x3 σ15)
theorem rc_Mg_listGroup {F : Nat} {σ : am_S} {x0 : Nat} {x1 : Int32} {x2 : Int32} {x3 : Int32} (h : (f_Mg_listGroup F σ x0 x1 x2 x3).isSome = true) : ∃ fs, σ.2.2 x0 = some (.inr (6, fs)) := am_ck_some h
theorem m_Mg_listGroup (g : am_G) (F : Nat) (σ : am_S) (x0 : Nat) (x1 : Int32) (x2 : Int32) (x3 : Int32) : am_Met g mx_Mg_listGroup [.ref x0, .int x1, .int x2, .int x3] σ ((f_Mg_listGroup F σ x0 x1 x2 x3).bind am_kV) := by
  refine am_Met.of (lv := [some (.ref x0), some (.int x1), some (.int x2), some (.int x3)]) (am_cc rfl (am_cc rfl (am_cc rfl (am_cc rfl am_c0)))) (Nat.le_of_ble_eq_true rfl) rfl (by decide) ?_
  unfold f_Mg_listGroup
  refine am_W.ck ?_
  refine aw_aload_n 0 (kk := ?_)
  refine aw_gA 6 8 18 (hw := wd_293) (kk := fun v1 => ?_)
  refine aw_aload_n 0 (kk := ?_)
  refine aw_gI 6 12 81 (hw := wd_297) (kk := fun v2 => ?_)
  refine aw_iload_n 1 (kk := ?_)
  refine aw_sI (kk := fun σ3 => ?_)
  refine aw_aload_n 0 (kk := ?_)
  refine aw_gA 6 9 22 (hw := wd_294) (kk := fun v4 => ?_)
  refine aw_aload_n 0 (kk := ?_)
  refine aw_gI 6 12 81 (hw := wd_297) (kk := fun v5 => ?_)
  refine aw_iload_n 2 (kk := ?_)
  refine aw_sI (kk := fun σ6 => ?_)
  refine aw_aload_n 0 (kk := ?_)
  refine aw_gA 6 10 25 (hw := wd_295) (kk := fun v7 => ?_)
  refine aw_aload_n 0 (kk := ?_)
  refine aw_gI 6 12 81 (hw := wd_297) (kk := fun v8 => ?_)
  refine aw_iload_n 3 (kk := ?_)
  refine aw_sI (kk := fun σ9 => ?_)
  refine aw_aload_n 0 (kk := ?_)
  refine aw_dup (kk := ?_)
  refine aw_gI 6 12 81 (hw := wd_297) (kk := fun v10 => ?_)
  refine aw_iconst 1 (v := 1) (kk := ?_)
  refine aw_iadd (kk := ?_)
  refine aw_pI 6 12 81 (hw := wd_297) (kk := fun σ11 => ?_)
  refine aw_iload_n 2 (kk := ?_)
  refine aw_if_lt 10 51 (kt := fun _ => ?_) (kf := fun _ => ?_)
  · exact am_W.drop [true, false, false, true] (b_Mg_listGroup_j51 F x0 x3 σ11)
  · refine aw_aload_n 0 (kk := ?_)
    refine aw_gA 6 6 9 (hw := wd_291) (kk := fun v14 => ?_)
    refine aw_iload_n 2 (kk := ?_)
    refine aw_iconst 1 (v := 1) (kk := ?_)
    refine aw_sZ (kk := fun σ15 => ?_)
    exact am_W.drop [true, false, false, true] (b_Mg_listGroup_j51 F x0 x3 σ15)
def f_Mg_listGroups_l7 (F : Nat) (x0 : Nat) (k34 : am_S → Option (am_S)) : Nat → Int32 → am_S → Option (am_S)
  | 0, _, _ => none
  | n + 1, x1, σ =>
    if 400 ≤ x1 then
      k34 σ
    else
      (am_gA σ 6 6 x0).bind fun v2 =>
      (am_sZ σ v2 x1 0).bind fun σ3 =>
      (am_gA σ3 6 7 x0).bind fun v4 =>
      (am_sZ σ3 v4 x1 0).bind fun σ5 =>
      f_Mg_listGroups_l7 F x0 k34 n (x1 + 1) σ5
theorem b_Mg_listGroups_l7 {g : am_G} {σ0 : am_S} (F : Nat) (x0 : Nat) (k34 : am_S → Option (am_S)) (h34 : ∀ (τ : am_S), am_W g mx_Mg_listGroups σ0 34 [some (.ref x0), none, none] [] τ (k34 τ) am_kV) : ∀ (n : Nat) (x1 : Int32) (σ : am_S), am_W g mx_Mg_listGroups σ0 7 [some (.ref x0), some (.int x1), none] [] σ (f_Mg_listGroups_l7 F x0 k34 n x1 σ) am_kV := by
  intro n
  induction n with
  | zero =>
    intro x1 σ
    rw [f_Mg_listGroups_l7]
    exact am_W.none
  | succ n ih =>
    intro x1 σ
    rw [f_Mg_listGroups_l7]
    refine aw_iload_n 1 (kk := ?_)
    refine aw_sipush 400 (v := 400) (kk := ?_)
    refine aw_icmp_ge 23 34 (kt := fun _ => ?_) (kf := fun _ => ?_)
    · exact am_W.drop [true, false, false] (h34 σ)
    · refine aw_aload_n 0 (kk := ?_)
      refine aw_gA 6 6 9 (hw := wd_291) (kk := fun v2 => ?_)
      refine aw_iload_n 1 (kk := ?_)
      refine aw_iconst 0 (v := 0) (kk := ?_)
      refine aw_sZ (kk := fun σ3 => ?_)
      refine aw_aload_n 0 (kk := ?_)
      refine aw_gA 6 7 15 (hw := wd_292) (kk := fun v4 => ?_)
      refine aw_iload_n 1 (kk := ?_)
      refine aw_iconst 0 (v := 0) (kk := ?_)
      refine aw_sZ (kk := fun σ5 => ?_)
      refine aw_iinc 1 1 (v := 1) (kk := ?_)
      refine aw_goto (-24) 7 (kk := ?_)
      exact am_W.drop [true, true, false] (ih (x1 + 1) σ5)
def f_Mg_listGroups_l36 (F : Nat) (x0 : Nat) (k74 : am_S → Option (am_S)) : Nat → Int32 → am_S → Option (am_S)
  | 0, _, _ => none
  | n + 1, x1, σ =>
    (am_gA σ 6 0 x0).bind fun v6 =>
    (f_Pm_size F σ v6).bind fun v7 =>
    if v7 ≤ x1 then
      k74 σ
    else
      (am_gA σ 6 4 x0).bind fun v8 =>
      (f_Rn_partnerOf F σ v8 x1).bind fun v9 =>
      (am_gA σ 6 5 x0).bind fun v10 =>
      (f_Rn_partnerOf F σ v10 x1).bind fun v11 =>
      (f_Mg_listGroup F σ x0 x1 v9 v11).bind fun σ12 =>
      f_Mg_listGroups_l36 F x0 k74 n (x1 + 1) σ12
theorem b_Mg_listGroups_l36 {g : am_G} {σ0 : am_S} (F : Nat) (x0 : Nat) (k74 : am_S → Option (am_S)) (h74 : ∀ (τ : am_S), am_W g mx_Mg_listGroups σ0 74 [some (.ref x0), none, none] [] τ (k74 τ) am_kV) : ∀ (n : Nat) (x1 : Int32) (σ : am_S), am_W g mx_Mg_listGroups σ0 36 [some (.ref x0), some (.int x1), none] [] σ (f_Mg_listGroups_l36 F x0 k74 n x1 σ) am_kV := by
  intro n
  induction n with
  | zero =>
    intro x1 σ
    rw [f_Mg_listGroups_l36]
    exact am_W.none
  | succ n ih =>
    intro x1 σ
    rw [f_Mg_listGroups_l36]
    refine aw_iload_n 1 (kk := ?_)
    refine aw_aload_n 0 (kk := ?_)
    refine aw_gA 6 0 28 (hw := wd_285) (kk := fun v6 => ?_)
    refine ac_PI (st := [.int x1]) [.ref v6] (ag_V 100 4 rc_Pm_size wd_762 cal_Pm_size wd_352 wd_353) cal_Pm_size ⟨by decide, by decide⟩ (Nat.le_of_ble_eq_true rfl) (m_Pm_size g F σ v6) (fun v7 => ?_)
    refine aw_icmp_ge 30 74 (kt := fun _ => ?_) (kf := fun _ => ?_)
    · exact am_W.drop [true, false, false] (h74 σ)
    · refine aw_aload_n 0 (kk := ?_)
      refine aw_iload_n 1 (kk := ?_)
      refine aw_aload_n 0 (kk := ?_)
      refine aw_gA 6 4 47 (hw := wd_289) (kk := fun v8 => ?_)
      refine aw_iload_n 1 (kk := ?_)
      refine ac_PI (st := [.int x1, .ref x0]) [.ref v8, .int x1] (ag_V 103 5 rc_Rn_partnerOf wd_763 cal_Rn_partnerOf wd_764 wd_765) cal_Rn_partnerOf ⟨by decide, by decide⟩ (Nat.le_of_ble_eq_true rfl) (m_Rn_partnerOf g F σ v8 x1) (fun v9 => ?_)
      refine aw_aload_n 0 (kk := ?_)
      refine aw_gA 6 5 51 (hw := wd_290) (kk := fun v10 => ?_)
      refine aw_iload_n 1 (kk := ?_)
      refine ac_PI (st := [.int v9, .int x1, .ref x0]) [.ref v10, .int x1] (ag_V 103 5 rc_Rn_partnerOf wd_763 cal_Rn_partnerOf wd_764 wd_765) cal_Rn_partnerOf ⟨by decide, by decide⟩ (Nat.le_of_ble_eq_true rfl) (m_Rn_partnerOf g F σ v10 x1) (fun v11 => ?_)
      refine ac_V (st := []) [.ref x0, .int x1, .int v9, .int v11] (ag_V 107 6 rc_Mg_listGroup wd_767 cal_Mg_listGroup wd_769 ws_27) cal_Mg_listGroup ⟨by decide, by decide⟩ (Nat.le_of_ble_eq_true rfl) (m_Mg_listGroup g F σ x0 x1 v9 v11) (fun σ12 => ?_)
      refine aw_iinc 1 1 (v := 1) (kk := ?_)
      refine aw_goto (-35) 36 (kk := ?_)
      exact am_W.drop [true, true, false] (ih (x1 + 1) σ12)
def f_Mg_listGroups_j130 (F : Nat) (x1 : Int32) (t23 : Nat) (t24 : Int32) (t25 : Int32) (t26 : Int32) (k76 : Int32 → am_S → Option (am_S)) (σ : am_S) : Option (am_S) :=
  (f_Mg_listGroup F σ t23 t24 t25 t26).bind fun σ27 =>
  k76 (x1 + 1) σ27
theorem b_Mg_listGroups_j130 {g : am_G} {σ0 : am_S} (F : Nat) (x0 : Nat) (x1 : Int32) (t23 : Nat) (t24 : Int32) (t25 : Int32) (t26 : Int32) (k76 : Int32 → am_S → Option (am_S)) (h76 : ∀ (y1 : Int32)  (τ : am_S), am_W g mx_Mg_listGroups σ0 76 [some (.ref x0), some (.int y1), none] [] τ (k76 y1 τ) am_kV) (σ : am_S) : am_W g mx_Mg_listGroups σ0 130 [some (.ref x0), some (.int x1), none] [.int t26, .int t25, .int t24, .ref t23] σ (f_Mg_listGroups_j130 F x1 t23 t24 t25 t26 k76 σ) am_kV := by
  unfold f_Mg_listGroups_j130
  refine ac_V (st := []) [.ref t23, .int t24, .int t25, .int t26] (ag_V 107 6 rc_Mg_listGroup wd_767 cal_Mg_listGroup wd_769 ws_27) cal_Mg_listGroup ⟨by decide, by decide⟩ (Nat.le_of_ble_eq_true rfl) (m_Mg_listGroup g F σ t23 t24 t25 t26) (fun σ27 => ?_)
  refine aw_iinc 1 1 (v := 1) (kk := ?_)
  refine aw_goto (-60) 76 (kk := ?_)
  exact am_W.drop [true, true, false] (h76 (x1 + 1) σ27)
def f_Mg_listGroups_j129 (F : Nat) (x1 : Int32) (t20 : Nat) (t21 : Int32) (t22 : Int32) (k76 : Int32 → am_S → Option (am_S)) (σ : am_S) : Option (am_S) :=
  f_Mg_listGroups_j130 F x1 t20 t21 t22 (-1) (fun y1 τ => k76 y1 τ) σ
theorem b_Mg_listGroups_j129 {g : am_G} {σ0 : am_S} (F : Nat) (x0 : Nat) (x1 : Int32) (t20 : Nat) (t21 : Int32) (t22 : Int32) (k76 : Int32 → am_S → Option (am_S)) (h76 : ∀ (y1 : Int32)  (τ : am_S), am_W g mx_Mg_listGroups σ0 76 [some (.ref x0), some (.int y1), none] [] τ (k76 y1 τ) am_kV) (σ : am_S) : am_W g mx_Mg_listGroups σ0 129 [some (.ref x0), some (.int x1), none] [.int t22, .int t21, .ref t20] σ (f_Mg_listGroups_j129 F x1 t20 t21 t22 k76 σ) am_kV := by
  unfold f_Mg_listGroups_j129
  refine aw_iconst (-1) (v := (-1)) (kk := ?_)
  exact am_W.drop [true, true, false] (b_Mg_listGroups_j130 F x0 x1 t20 t21 t22 (-1) (fun y1 τ => k76 y1 τ) (fun y1 τ => am_W.drop [true, true, false] (h76 y1 τ)) σ)
def f_Mg_listGroups_l76 (F : Nat) (x0 : Nat) (k139 : am_S → Option (am_S)) : Nat → Int32 → am_S → Option (am_S)
  | 0, _, _ => none
  | n + 1, x1, σ =>
    (am_gA σ 6 1 x0).bind fun v13 =>
    (f_Pm_size F σ v13).bind fun v14 =>
    if v14 ≤ x1 then
      k139 σ
    else
      (am_gA σ 6 6 x0).bind fun v15 =>
      (am_lI σ .boolean v15 x1).bind fun v16 =>
      if v16 = 0 then
        (am_gA σ 6 2 x0).bind fun v17 =>
        (am_gA σ 6 1 x0).bind fun v18 =>
        (f_Pm_findPathOf F σ v17 v18 x1).bind fun v19 =>
        if v19 < 0 then
          f_Mg_listGroups_j129 F x1 x0 (-1) x1 (fun y1 τ => f_Mg_listGroups_l76 F x0 k139 n y1 τ) σ
        else
          (am_gA σ 6 7 x0).bind fun v28 =>
          (am_lI σ .boolean v28 v19).bind fun v29 =>
          if v29 = 0 then
            f_Mg_listGroups_j130 F x1 x0 (-1) x1 v19 (fun y1 τ => f_Mg_listGroups_l76 F x0 k139 n y1 τ) σ
          else
            f_Mg_listGroups_j129 F x1 x0 (-1) x1 (fun y1 τ => f_Mg_listGroups_l76 F x0 k139 n y1 τ) σ
      else
        f_Mg_listGroups_l76 F x0 k139 n (x1 + 1) σ
theorem b_Mg_listGroups_l76 {g : am_G} {σ0 : am_S} (F : Nat) (x0 : Nat) (k139 : am_S → Option (am_S)) (h139 : ∀ (τ : am_S), am_W g mx_Mg_listGroups σ0 139 [some (.ref x0), none, none] [] τ (k139 τ) am_kV) : ∀ (n : Nat) (x1 : Int32) (σ : am_S), am_W g mx_Mg_listGroups σ0 76 [some (.ref x0), some (.int x1), none] [] σ (f_Mg_listGroups_l76 F x0 k139 n x1 σ) am_kV := by
  intro n
  induction n with
  | zero =>
    intro x1 σ
    rw [f_Mg_listGroups_l76]
    exact am_W.none
  | succ n ih =>
    intro x1 σ
    rw [f_Mg_listGroups_l76]
    refine aw_iload_n 1 (kk := ?_)
    refine aw_aload_n 0 (kk := ?_)
    refine aw_gA 6 1 32 (hw := wd_286) (kk := fun v13 => ?_)
    refine ac_PI (st := [.int x1]) [.ref v13] (ag_V 100 4 rc_Pm_size wd_762 cal_Pm_size wd_352 wd_353) cal_Pm_size ⟨by decide, by decide⟩ (Nat.le_of_ble_eq_true rfl) (m_Pm_size g F σ v13) (fun v14 => ?_)
    refine aw_icmp_ge 55 139 (kt := fun _ => ?_) (kf := fun _ => ?_)
    · exact am_W.drop [true, false, false] (h139 σ)
    · refine aw_aload_n 0 (kk := ?_)
      refine aw_gA 6 6 9 (hw := wd_291) (kk := fun v15 => ?_)
      refine aw_iload_n 1 (kk := ?_)
      refine aw_lZ (kk := fun v16 => ?_)
      refine aw_if_ne 40 133 (kt := fun _ => ?_) (kf := fun _ => ?_)
      · refine aw_iinc 1 1 (v := 1) (kk := ?_)
        refine aw_goto (-60) 76 (kk := ?_)
        exact am_W.drop [true, true, false] (ih (x1 + 1) σ)
      · refine aw_aload_n 0 (kk := ?_)
        refine aw_gA 6 2 35 (hw := wd_287) (kk := fun v17 => ?_)
        refine aw_aload_n 0 (kk := ?_)
        refine aw_gA 6 1 32 (hw := wd_286) (kk := fun v18 => ?_)
        refine aw_iload_n 1 (kk := ?_)
        refine ac_PI (st := []) [.ref v17, .ref v18, .int x1] (ag_V 111 4 rc_Pm_findPathOf wd_771 cal_Pm_findPathOf wd_772 wd_773) cal_Pm_findPathOf ⟨by decide, by decide⟩ (Nat.le_of_ble_eq_true rfl) (m_Pm_findPathOf g F σ v17 v18 x1) (fun v19 => ?_)
        refine aw_istore_n 2 (kk := ?_)
        refine aw_aload_n 0 (kk := ?_)
        refine aw_iconst (-1) (v := (-1)) (kk := ?_)
        refine aw_iload_n 1 (kk := ?_)
        refine aw_iload_n 2 (kk := ?_)
        refine aw_if_lt 16 129 (kt := fun _ => ?_) (kf := fun _ => ?_)
        · exact am_W.drop [true, true, false] (b_Mg_listGroups_j129 F x0 x1 x0 (-1) x1 (fun y1 τ => f_Mg_listGroups_l76 F x0 k139 n y1 τ) (fun y1 τ => am_W.drop [true, true, false] (ih y1 τ)) σ)
        · refine aw_aload_n 0 (kk := ?_)
          refine aw_gA 6 7 15 (hw := wd_292) (kk := fun v28 => ?_)
          refine aw_iload_n 2 (kk := ?_)
          refine aw_lZ (kk := fun v29 => ?_)
          refine aw_if_ne 7 129 (kt := fun _ => ?_) (kf := fun _ => ?_)
          · exact am_W.drop [true, true, false] (b_Mg_listGroups_j129 F x0 x1 x0 (-1) x1 (fun y1 τ => f_Mg_listGroups_l76 F x0 k139 n y1 τ) (fun y1 τ => am_W.drop [true, true, false] (ih y1 τ)) σ)
          · refine aw_iload_n 2 (kk := ?_)
            refine aw_goto 4 130 (kk := ?_)
            exact am_W.drop [true, true, false] (b_Mg_listGroups_j130 F x0 x1 x0 (-1) x1 v19 (fun y1 τ => f_Mg_listGroups_l76 F x0 k139 n y1 τ) (fun y1 τ => am_W.drop [true, true, false] (ih y1 τ)) σ)
def f_Mg_listGroups_l141 (F : Nat) (x0 : Nat)  : Nat → Int32 → am_S → Option (am_S)
  | 0, _, _ => none
  | n + 1, x1, σ =>
    (am_gA σ 6 2 x0).bind fun v30 =>
    (f_Pm_size F σ v30).bind fun v31 =>
    if v31 ≤ x1 then
      some σ
    else
      (am_gA σ 6 7 x0).bind fun v32 =>
      (am_lI σ .boolean v32 x1).bind fun v33 =>
      if v33 = 0 then
        (f_Mg_listGroup F σ x0 (-1) (-1) x1).bind fun σ34 =>
        f_Mg_listGroups_l141 F x0 n (x1 + 1) σ34
      else
        f_Mg_listGroups_l141 F x0 n (x1 + 1) σ
theorem b_Mg_listGroups_l141 {g : am_G} {σ0 : am_S} (F : Nat) (x0 : Nat)   : ∀ (n : Nat) (x1 : Int32) (σ : am_S), am_W g mx_Mg_listGroups σ0 141 [some (.ref x0), some (.int x1), none] [] σ (f_Mg_listGroups_l141 F x0 n x1 σ) am_kV := by
  intro n
  induction n with
  | zero =>
    intro x1 σ
    rw [f_Mg_listGroups_l141]
    exact am_W.none
  | succ n ih =>
    intro x1 σ
    rw [f_Mg_listGroups_l141]
    refine aw_iload_n 1 (kk := ?_)
    refine aw_aload_n 0 (kk := ?_)
    refine aw_gA 6 2 35 (hw := wd_287) (kk := fun v30 => ?_)
    refine ac_PI (st := [.int x1]) [.ref v30] (ag_V 100 4 rc_Pm_size wd_762 cal_Pm_size wd_352 wd_353) cal_Pm_size ⟨by decide, by decide⟩ (Nat.le_of_ble_eq_true rfl) (m_Pm_size g F σ v30) (fun v31 => ?_)
    refine aw_icmp_ge 25 174 (kt := fun _ => ?_) (kf := fun _ => ?_)
    · exact aw_vret
    · refine aw_aload_n 0 (kk := ?_)
      refine aw_gA 6 7 15 (hw := wd_292) (kk := fun v32 => ?_)
      refine aw_iload_n 1 (kk := ?_)
      refine aw_lZ (kk := fun v33 => ?_)
      refine aw_if_ne 10 168 (kt := fun _ => ?_) (kf := fun _ => ?_)
      · refine aw_iinc 1 1 (v := 1) (kk := ?_)
        refine aw_goto (-30) 141 (kk := ?_)
        exact am_W.drop [true, true, false] (ih (x1 + 1) σ)
      · refine aw_aload_n 0 (kk := ?_)
        refine aw_iconst (-1) (v := (-1)) (kk := ?_)
        refine aw_iconst (-1) (v := (-1)) (kk := ?_)
        refine aw_iload_n 1 (kk := ?_)
        refine ac_V (st := []) [.ref x0, .int (-1), .int (-1), .int x1] (ag_V 107 6 rc_Mg_listGroup wd_767 cal_Mg_listGroup wd_769 ws_27) cal_Mg_listGroup ⟨by decide, by decide⟩ (Nat.le_of_ble_eq_true rfl) (m_Mg_listGroup g F σ x0 (-1) (-1) x1) (fun σ34 => ?_)
        refine aw_iinc 1 1 (v := 1) (kk := ?_)
        refine aw_goto (-30) 141 (kk := ?_)
        exact am_W.drop [true, true, false] (ih (x1 + 1) σ34)
def f_Mg_listGroups_j139 (F : Nat) (x0 : Nat)  (σ : am_S) : Option (am_S) :=
  f_Mg_listGroups_l141 F x0 F 0 σ
theorem b_Mg_listGroups_j139 {g : am_G} {σ0 : am_S} (F : Nat) (x0 : Nat)   (σ : am_S) : am_W g mx_Mg_listGroups σ0 139 [some (.ref x0), none, none] [] σ (f_Mg_listGroups_j139 F x0 σ) am_kV := by
  unfold f_Mg_listGroups_j139
  refine aw_iconst 0 (v := 0) (kk := ?_)
  refine aw_istore_n 1 (kk := ?_)
  exact am_W.drop [true, true, false] (b_Mg_listGroups_l141 F x0 F 0 σ)
def f_Mg_listGroups_j74 (F : Nat) (x0 : Nat)  (σ : am_S) : Option (am_S) :=
  f_Mg_listGroups_l76 F x0 (fun τ => f_Mg_listGroups_j139 F x0 τ) F 0 σ
theorem b_Mg_listGroups_j74 {g : am_G} {σ0 : am_S} (F : Nat) (x0 : Nat)   (σ : am_S) : am_W g mx_Mg_listGroups σ0 74 [some (.ref x0), none, none] [] σ (f_Mg_listGroups_j74 F x0 σ) am_kV := by
  unfold f_Mg_listGroups_j74
  refine aw_iconst 0 (v := 0) (kk := ?_)
  refine aw_istore_n 1 (kk := ?_)
  exact am_W.drop [true, true, false] (b_Mg_listGroups_l76 F x0 (fun τ => f_Mg_listGroups_j139 F x0 τ) (fun τ => am_W.drop [true, false, false] (b_Mg_listGroups_j139 F x0 τ)) F 0 σ)
def f_Mg_listGroups_j34 (F : Nat) (x0 : Nat)  (σ : am_S) : Option (am_S) :=
  f_Mg_listGroups_l36 F x0 (fun τ => f_Mg_listGroups_j74 F x0 τ) F 0 σ
theorem b_Mg_listGroups_j34 {g : am_G} {σ0 : am_S} (F : Nat) (x0 : Nat)   (σ : am_S) : am_W g mx_Mg_listGroups σ0 34 [some (.ref x0), none, none] [] σ (f_Mg_listGroups_j34 F x0 σ) am_kV := by
  unfold f_Mg_listGroups_j34
  refine aw_iconst 0 (v := 0) (kk := ?_)
  refine aw_istore_n 1 (kk := ?_)
  exact am_W.drop [true, true, false] (b_Mg_listGroups_l36 F x0 (fun τ => f_Mg_listGroups_j74 F x0 τ) (fun τ => am_W.drop [true, false, false] (b_Mg_listGroups_j74 F x0 τ)) F 0 σ)
def f_Mg_listGroups (F : Nat) (σ : am_S) (x0 : Nat) : Option (am_S) :=
  am_ck σ 6 x0 (
  (am_pI σ 6 12 x0 0).bind fun σ1 =>
  f_Mg_listGroups_l7 F x0 (fun τ => f_Mg_listGroups_j34 F x0 τ) F 0 σ1)
theorem rc_Mg_listGroups {F : Nat} {σ : am_S} {x0 : Nat} (h : (f_Mg_listGroups F σ x0).isSome = true) : ∃ fs, σ.2.2 x0 = some (.inr (6, fs)) := am_ck_some h
theorem m_Mg_listGroups (g : am_G) (F : Nat) (σ : am_S) (x0 : Nat) : am_Met g mx_Mg_listGroups [.ref x0] σ ((f_Mg_listGroups F σ x0).bind am_kV) := by
  refine am_Met.of (lv := [some (.ref x0), none, none]) (am_cc rfl am_c0) (Nat.le_of_ble_eq_true rfl) rfl (by decide) ?_
  unfold f_Mg_listGroups
  refine am_W.ck ?_
  refine aw_aload_n 0 (kk := ?_)
  refine aw_iconst 0 (v := 0) (kk := ?_)
  refine aw_pI 6 12 81 (hw := wd_297) (kk := fun σ1 => ?_)
  refine aw_iconst 0 (v := 0) (kk := ?_)
  refine aw_istore_n 1 (kk := ?_)
  exact am_W.drop [true, true, false] (b_Mg_listGroups_l7 F x0 (fun τ => f_Mg_listGroups_j34 F x0 τ) (fun τ => am_W.drop [true, false, false] (b_Mg_listGroups_j34 F x0 τ)) F 0 σ1)
def f_Mg_isPathOfBase (F : Nat) (σ : am_S) (x0 : Nat) (x1 : Int32) (x2 : Nat) (x3 : Int32) : Option (Int32) :=
  am_ck σ 6 x0 (
  if x1 < 0 then
    some 0
  else
    if x3 < 0 then
      some 0
    else
      (am_gA σ 6 0 x0).bind fun v1 =>
      (f_Pm_comparePaths F σ v1 x1 x2 x3).bind fun v2 =>
      if v2 = 0 then
        some 1
      else
        some 0)
theorem rc_Mg_isPathOfBase {F : Nat} {σ : am_S} {x0 : Nat} {x1 : Int32} {x2 : Nat} {x3 : Int32} (h : (f_Mg_isPathOfBase F σ x0 x1 x2 x3).isSome = true) : ∃ fs, σ.2.2 x0 = some (.inr (6, fs)) := am_ck_some h
theorem m_Mg_isPathOfBase (g : am_G) (F : Nat) (σ : am_S) (x0 : Nat) (x1 : Int32) (x2 : Nat) (x3 : Int32) : am_Met g mx_Mg_isPathOfBase [.ref x0, .int x1, .ref x2, .int x3] σ ((f_Mg_isPathOfBase F σ x0 x1 x2 x3).bind (am_kPI σ)) := by
  refine am_Met.of (lv := [some (.ref x0), some (.int x1), some (.ref x2), some (.int x3)]) (am_cc rfl (am_cc rfl (am_cc rfl (am_cc rfl am_c0)))) (Nat.le_of_ble_eq_true rfl) rfl (by decide) ?_
  unfold f_Mg_isPathOfBase
  refine am_W.ck ?_
  refine aw_iload_n 1 (kk := ?_)
  refine aw_if_lt 24 25 (kt := fun _ => ?_) (kf := fun _ => ?_)
  · refine aw_iconst 0 (v := 0) (kk := ?_)
    exact aw_zretPL (by decide)
  · refine aw_iload_n 3 (kk := ?_)
    refine aw_if_lt 20 25 (kt := fun _ => ?_) (kf := fun _ => ?_)
    · refine aw_iconst 0 (v := 0) (kk := ?_)
      exact aw_zretPL (by decide)
    · refine aw_aload_n 0 (kk := ?_)
      refine aw_gA 6 0 28 (hw := wd_285) (kk := fun v1 => ?_)
      refine aw_iload_n 1 (kk := ?_)
      refine aw_aload_n 2 (kk := ?_)
      refine aw_iload_n 3 (kk := ?_)
      refine ac_PI (st := []) [.ref v1, .int x1, .ref x2, .int x3] (ag_V 122 4 rc_Pm_comparePaths wd_792 cal_Pm_comparePaths wd_707 wd_708) cal_Pm_comparePaths ⟨by decide, by decide⟩ (Nat.le_of_ble_eq_true rfl) (m_Pm_comparePaths g F σ v1 x1 x2 x3) (fun v2 => ?_)
      refine aw_if_ne 7 25 (kt := fun _ => ?_) (kf := fun _ => ?_)
      · refine aw_iconst 0 (v := 0) (kk := ?_)
        exact aw_zretPL (by decide)
      · refine aw_iconst 1 (v := 1) (kk := ?_)
        refine aw_goto 4 26 (kk := ?_)
        exact aw_zretPL (by decide)
def f_Mg_addGroup_j288 (F : Nat) (x0 : Nat) (x14 : Int32)  (σ : am_S) : Option (Int32 × am_S) :=
  (am_gA σ 6 14 x0).bind fun v26 =>
  (f_Oc_setUnmerged F σ v26 x14).bind fun σ27 =>
  some (1, σ27)
theorem b_Mg_addGroup_j288 {g : am_G} {σ0 : am_S} (F : Nat) (x0 : Nat) (x14 : Int32)   (σ : am_S) : am_W g mx_Mg_addGroup σ0 288 [some (.ref x0), none, none, none, none, none, none, none, none, none, none, none, none, none, some (.int x14)] [] σ (f_Mg_addGroup_j288 F x0 x14 σ) am_kI := by
  unfold f_Mg_addGroup_j288
  refine aw_aload_n 0 (kk := ?_)
  refine aw_gA 6 14 68 (hw := wd_299) (kk := fun v26 => ?_)
  refine aw_iload 14 (kk := ?_)
  refine ac_V (st := []) [.ref v26, .int x14] (ag_V 133 9 rc_Oc_setUnmerged wd_805 cal_Oc_setUnmerged wd_806 wd_807) cal_Oc_setUnmerged ⟨by decide, by decide⟩ (Nat.le_of_ble_eq_true rfl) (m_Oc_setUnmerged g F σ v26 x14) (fun σ27 => ?_)
  refine aw_iconst 1 (v := 1) (kk := ?_)
  exact aw_zretL (by decide)
def f_Mg_addGroup_j237 (F : Nat) (x0 : Nat) (x1 : Int32) (x4 : Int32) (x5 : Int32) (x6 : Int32) (x7 : Int32) (x8 : Int32) (x11 : Int32) (x12 : Int32) (t23 : Int32)  (σ : am_S) : Option (Int32 × am_S) :=
  if 0 ≤ t23 then
    (am_gA σ 6 14 x0).bind fun v24 =>
    (f_Oc_setSources F σ v24 t23 x4 x5 x6).bind fun σ25 =>
    if x11 = 0 then
      if x1 < 0 then
        some (1, σ25)
      else
        f_Mg_addGroup_j288 F x0 t23 σ25
    else
      if x12 = 0 then
        some (1, σ25)
      else
        if x7 = 0 then
          if x8 = 0 then
            f_Mg_addGroup_j288 F x0 t23 σ25
          else
            some (1, σ25)
        else
          some (1, σ25)
  else
    some (0, σ)
theorem b_Mg_addGroup_j237 {g : am_G} {σ0 : am_S} (F : Nat) (x0 : Nat) (x1 : Int32) (x4 : Int32) (x5 : Int32) (x6 : Int32) (x7 : Int32) (x8 : Int32) (x11 : Int32) (x12 : Int32) (t23 : Int32)   (σ : am_S) : am_W g mx_Mg_addGroup σ0 237 [some (.ref x0), some (.int x1), none, none, some (.int x4), some (.int x5), some (.int x6), some (.int x7), some (.int x8), none, none, some (.int x11), some (.int x12), none, none] [.int t23] σ (f_Mg_addGroup_j237 F x0 x1 x4 x5 x6 x7 x8 x11 x12 t23 σ) am_kI := by
  unfold f_Mg_addGroup_j237
  refine aw_istore 14 (kk := ?_)
  refine aw_iload 14 (kk := ?_)
  refine aw_if_ge 5 246 (kt := fun _ => ?_) (kf := fun _ => ?_)
  · refine aw_aload_n 0 (kk := ?_)
    refine aw_gA 6 14 68 (hw := wd_299) (kk := fun v24 => ?_)
    refine aw_iload 14 (kk := ?_)
    refine aw_iload 4 (kk := ?_)
    refine aw_iload 5 (kk := ?_)
    refine aw_iload 6 (kk := ?_)
    refine ac_V (st := []) [.ref v24, .int t23, .int x4, .int x5, .int x6] (ag_V 129 9 rc_Oc_setSources wd_801 cal_Oc_setSources wd_802 wd_803) cal_Oc_setSources ⟨by decide, by decide⟩ (Nat.le_of_ble_eq_true rfl) (m_Oc_setSources g F σ v24 t23 x4 x5 x6) (fun σ25 => ?_)
    refine aw_iload 11 (kk := ?_)
    refine aw_if_eq 21 284 (kt := fun _ => ?_) (kf := fun _ => ?_)
    · refine aw_iload_n 1 (kk := ?_)
      refine aw_if_lt 12 297 (kt := fun _ => ?_) (kf := fun _ => ?_)
      · refine aw_iconst 1 (v := 1) (kk := ?_)
        exact aw_zretL (by decide)
      · exact am_W.drop [true, false, false, false, false, false, false, false, false, false, false, false, false, false, true] (b_Mg_addGroup_j288 F x0 t23 σ25)
    · refine aw_iload 12 (kk := ?_)
      refine aw_if_eq 29 297 (kt := fun _ => ?_) (kf := fun _ => ?_)
      · refine aw_iconst 1 (v := 1) (kk := ?_)
        exact aw_zretL (by decide)
      · refine aw_iload 7 (kk := ?_)
        refine aw_if_ne 24 297 (kt := fun _ => ?_) (kf := fun _ => ?_)
        · refine aw_iconst 1 (v := 1) (kk := ?_)
          exact aw_zretL (by decide)
        · refine aw_iload 8 (kk := ?_)
          refine aw_if_ne 19 297 (kt := fun _ => ?_) (kf := fun _ => ?_)
          · refine aw_iconst 1 (v := 1) (kk := ?_)
            exact aw_zretL (by decide)
          · refine aw_goto 7 288 (kk := ?_)
            exact am_W.drop [true, false, false, false, false, false, false, false, false, false, false, false, false, false, true] (b_Mg_addGroup_j288 F x0 t23 σ25)
  · refine aw_iconst 0 (v := 0) (kk := ?_)
    exact aw_zretL (by decide)
def f_Mg_addGroup_j203 (F : Nat) (x0 : Nat) (x1 : Int32) (x2 : Int32) (x3 : Int32) (x4 : Int32) (x5 : Int32) (x6 : Int32) (x7 : Int32) (x8 : Int32) (x11 : Int32) (x12 : Int32) (t18 : Int32)  (σ : am_S) : Option (Int32 × am_S) :=
  if t18 = 0 then
    (am_gA σ 6 14 x0).bind fun v19 =>
    (am_gA σ 6 1 x0).bind fun v20 =>
    am_b2 (f_Oc_open F σ v19 v20 x2) fun v21 σ22 =>
    f_Mg_addGroup_j237 F x0 x1 x4 x5 x6 x7 x8 x11 x12 v21 σ22
  else
    (am_gA σ 6 14 x0).bind fun v28 =>
    (am_gA σ 6 2 x0).bind fun v29 =>
    am_b2 (f_Oc_open F σ v28 v29 x3) fun v30 σ31 =>
    f_Mg_addGroup_j237 F x0 x1 x4 x5 x6 x7 x8 x11 x12 v30 σ31
theorem b_Mg_addGroup_j203 {g : am_G} {σ0 : am_S} (F : Nat) (x0 : Nat) (x1 : Int32) (x2 : Int32) (x3 : Int32) (x4 : Int32) (x5 : Int32) (x6 : Int32) (x7 : Int32) (x8 : Int32) (x11 : Int32) (x12 : Int32) (t18 : Int32)   (σ : am_S) : am_W g mx_Mg_addGroup σ0 203 [some (.ref x0), some (.int x1), some (.int x2), some (.int x3), some (.int x4), some (.int x5), some (.int x6), some (.int x7), some (.int x8), none, none, some (.int x11), some (.int x12), none, none] [.int t18] σ (f_Mg_addGroup_j203 F x0 x1 x2 x3 x4 x5 x6 x7 x8 x11 x12 t18 σ) am_kI := by
  unfold f_Mg_addGroup_j203
  refine aw_istore 13 (kk := ?_)
  refine aw_iload 13 (kk := ?_)
  refine aw_if_eq 18 225 (kt := fun _ => ?_) (kf := fun _ => ?_)
  · refine aw_aload_n 0 (kk := ?_)
    refine aw_gA 6 14 68 (hw := wd_299) (kk := fun v19 => ?_)
    refine aw_aload_n 0 (kk := ?_)
    refine aw_gA 6 1 32 (hw := wd_286) (kk := fun v20 => ?_)
    refine aw_iload_n 2 (kk := ?_)
    refine ac_I (st := []) [.ref v19, .ref v20, .int x2] (ag_V 126 9 rc_Oc_open wd_793 cal_Oc_open wd_794 wd_795) cal_Oc_open ⟨by decide, by decide⟩ (Nat.le_of_ble_eq_true rfl) (m_Oc_open g F σ v19 v20 x2) (fun v21 σ22 => ?_)
    exact am_W.drop [true, true, false, false, true, true, true, true, true, false, false, true, true, false, false] (b_Mg_addGroup_j237 F x0 x1 x4 x5 x6 x7 x8 x11 x12 v21 σ22)
  · refine aw_aload_n 0 (kk := ?_)
    refine aw_gA 6 14 68 (hw := wd_299) (kk := fun v28 => ?_)
    refine aw_aload_n 0 (kk := ?_)
    refine aw_gA 6 2 35 (hw := wd_287) (kk := fun v29 => ?_)
    refine aw_iload_n 3 (kk := ?_)
    refine ac_I (st := []) [.ref v28, .ref v29, .int x3] (ag_V 126 9 rc_Oc_open wd_793 cal_Oc_open wd_794 wd_795) cal_Oc_open ⟨by decide, by decide⟩ (Nat.le_of_ble_eq_true rfl) (m_Oc_open g F σ v28 v29 x3) (fun v30 σ31 => ?_)
    refine aw_goto 15 237 (kk := ?_)
    exact am_W.drop [true, true, false, false, true, true, true, true, true, false, false, true, true, false, false] (b_Mg_addGroup_j237 F x0 x1 x4 x5 x6 x7 x8 x11 x12 v30 σ31)
def f_Mg_addGroup_j198 (F : Nat) (x0 : Nat) (x1 : Int32) (x2 : Int32) (x3 : Int32) (x4 : Int32) (x5 : Int32) (x6 : Int32) (x7 : Int32) (x8 : Int32) (x11 : Int32) (x12 : Int32)  (σ : am_S) : Option (Int32 × am_S) :=
  f_Mg_addGroup_j203 F x0 x1 x2 x3 x4 x5 x6 x7 x8 x11 x12 1 σ
theorem b_Mg_addGroup_j198 {g : am_G} {σ0 : am_S} (F : Nat) (x0 : Nat) (x1 : Int32) (x2 : Int32) (x3 : Int32) (x4 : Int32) (x5 : Int32) (x6 : Int32) (x7 : Int32) (x8 : Int32) (x11 : Int32) (x12 : Int32)   (σ : am_S) : am_W g mx_Mg_addGroup σ0 198 [some (.ref x0), some (.int x1), some (.int x2), some (.int x3), some (.int x4), some (.int x5), some (.int x6), some (.int x7), some (.int x8), none, none, some (.int x11), some (.int x12), none, none] [] σ (f_Mg_addGroup_j198 F x0 x1 x2 x3 x4 x5 x6 x7 x8 x11 x12 σ) am_kI := by
  unfold f_Mg_addGroup_j198
  refine aw_iconst 1 (v := 1) (kk := ?_)
  refine aw_goto 4 203 (kk := ?_)
  exact am_W.drop [true, true, true, true, true, true, true, true, true, false, false, true, true, false, false] (b_Mg_addGroup_j203 F x0 x1 x2 x3 x4 x5 x6 x7 x8 x11 x12 1 σ)
def f_Mg_addGroup_j202 (F : Nat) (x0 : Nat) (x1 : Int32) (x2 : Int32) (x3 : Int32) (x4 : Int32) (x5 : Int32) (x6 : Int32) (x7 : Int32) (x8 : Int32) (x11 : Int32) (x12 : Int32)  (σ : am_S) : Option (Int32 × am_S) :=
  f_Mg_addGroup_j203 F x0 x1 x2 x3 x4 x5 x6 x7 x8 x11 x12 0 σ
theorem b_Mg_addGroup_j202 {g : am_G} {σ0 : am_S} (F : Nat) (x0 : Nat) (x1 : Int32) (x2 : Int32) (x3 : Int32) (x4 : Int32) (x5 : Int32) (x6 : Int32) (x7 : Int32) (x8 : Int32) (x11 : Int32) (x12 : Int32)   (σ : am_S) : am_W g mx_Mg_addGroup σ0 202 [some (.ref x0), some (.int x1), some (.int x2), some (.int x3), some (.int x4), some (.int x5), some (.int x6), some (.int x7), some (.int x8), none, none, some (.int x11), some (.int x12), none, none] [] σ (f_Mg_addGroup_j202 F x0 x1 x2 x3 x4 x5 x6 x7 x8 x11 x12 σ) am_kI := by
  unfold f_Mg_addGroup_j202
  refine aw_iconst 0 (v := 0) (kk := ?_)
  exact am_W.drop [true, true, true, true, true, true, true, true, true, false, false, true, true, false, false] (b_Mg_addGroup_j203 F x0 x1 x2 x3 x4 x5 x6 x7 x8 x11 x12 0 σ)
def f_Mg_addGroup_j182 (F : Nat) (x0 : Nat) (x1 : Int32) (x2 : Int32) (x3 : Int32) (x4 : Int32) (x5 : Int32) (x6 : Int32) (x7 : Int32) (x8 : Int32) (x11 : Int32) (t17 : Int32)  (σ : am_S) : Option (Int32 × am_S) :=
  if x2 < 0 then
    f_Mg_addGroup_j198 F x0 x1 x2 x3 x4 x5 x6 x7 x8 x11 t17 σ
  else
    if t17 = 0 then
      f_Mg_addGroup_j202 F x0 x1 x2 x3 x4 x5 x6 x7 x8 x11 t17 σ
    else
      if x7 = 0 then
        f_Mg_addGroup_j202 F x0 x1 x2 x3 x4 x5 x6 x7 x8 x11 t17 σ
      else
        f_Mg_addGroup_j198 F x0 x1 x2 x3 x4 x5 x6 x7 x8 x11 t17 σ
theorem b_Mg_addGroup_j182 {g : am_G} {σ0 : am_S} (F : Nat) (x0 : Nat) (x1 : Int32) (x2 : Int32) (x3 : Int32) (x4 : Int32) (x5 : Int32) (x6 : Int32) (x7 : Int32) (x8 : Int32) (x11 : Int32) (t17 : Int32)   (σ : am_S) : am_W g mx_Mg_addGroup σ0 182 [some (.ref x0), some (.int x1), some (.int x2), some (.int x3), some (.int x4), some (.int x5), some (.int x6), some (.int x7), some (.int x8), none, none, some (.int x11), none, none, none] [.int t17] σ (f_Mg_addGroup_j182 F x0 x1 x2 x3 x4 x5 x6 x7 x8 x11 t17 σ) am_kI := by
  unfold f_Mg_addGroup_j182
  refine aw_istore 12 (kk := ?_)
  refine aw_iload_n 2 (kk := ?_)
  refine aw_if_lt 13 198 (kt := fun _ => ?_) (kf := fun _ => ?_)
  · exact am_W.drop [true, true, true, true, true, true, true, true, true, false, false, true, true, false, false] (b_Mg_addGroup_j198 F x0 x1 x2 x3 x4 x5 x6 x7 x8 x11 t17 σ)
  · refine aw_iload 12 (kk := ?_)
    refine aw_if_eq 12 202 (kt := fun _ => ?_) (kf := fun _ => ?_)
    · exact am_W.drop [true, true, true, true, true, true, true, true, true, false, false, true, true, false, false] (b_Mg_addGroup_j202 F x0 x1 x2 x3 x4 x5 x6 x7 x8 x11 t17 σ)
    · refine aw_iload 7 (kk := ?_)
      refine aw_if_eq 7 202 (kt := fun _ => ?_) (kf := fun _ => ?_)
      · exact am_W.drop [true, true, true, true, true, true, true, true, true, false, false, true, true, false, false] (b_Mg_addGroup_j202 F x0 x1 x2 x3 x4 x5 x6 x7 x8 x11 t17 σ)
      · exact am_W.drop [true, true, true, true, true, true, true, true, true, false, false, true, true, false, false] (b_Mg_addGroup_j198 F x0 x1 x2 x3 x4 x5 x6 x7 x8 x11 t17 σ)
def f_Mg_addGroup_j181 (F : Nat) (x0 : Nat) (x1 : Int32) (x2 : Int32) (x3 : Int32) (x4 : Int32) (x5 : Int32) (x6 : Int32) (x7 : Int32) (x8 : Int32) (x11 : Int32)  (σ : am_S) : Option (Int32 × am_S) :=
  f_Mg_addGroup_j182 F x0 x1 x2 x3 x4 x5 x6 x7 x8 x11 0 σ
theorem b_Mg_addGroup_j181 {g : am_G} {σ0 : am_S} (F : Nat) (x0 : Nat) (x1 : Int32) (x2 : Int32) (x3 : Int32) (x4 : Int32) (x5 : Int32) (x6 : Int32) (x7 : Int32) (x8 : Int32) (x11 : Int32)   (σ : am_S) : am_W g mx_Mg_addGroup σ0 181 [some (.ref x0), some (.int x1), some (.int x2), some (.int x3), some (.int x4), some (.int x5), some (.int x6), some (.int x7), some (.int x8), none, none, some (.int x11), none, none, none] [] σ (f_Mg_addGroup_j181 F x0 x1 x2 x3 x4 x5 x6 x7 x8 x11 σ) am_kI := by
  unfold f_Mg_addGroup_j181
  refine aw_iconst 0 (v := 0) (kk := ?_)
  exact am_W.drop [true, true, true, true, true, true, true, true, true, false, false, true, false, false, false] (b_Mg_addGroup_j182 F x0 x1 x2 x3 x4 x5 x6 x7 x8 x11 0 σ)
def f_Mg_addGroup_j156 (F : Nat) (x0 : Nat) (x1 : Int32) (x2 : Int32) (x3 : Int32) (x4 : Int32) (x5 : Int32) (x6 : Int32) (x7 : Int32) (x8 : Int32) (x11 : Int32)  (σ : am_S) : Option (Int32 × am_S) :=
  if x11 = 0 then
    f_Mg_addGroup_j181 F x0 x1 x2 x3 x4 x5 x6 x7 x8 x11 σ
  else
    (am_gA σ 6 1 x0).bind fun v32 =>
    (am_gA σ 6 2 x0).bind fun v33 =>
    (f_Pm_comparePaths F σ v32 x2 v33 x3).bind fun v34 =>
    if v34 = 0 then
      f_Mg_addGroup_j181 F x0 x1 x2 x3 x4 x5 x6 x7 x8 x11 σ
    else
      f_Mg_addGroup_j182 F x0 x1 x2 x3 x4 x5 x6 x7 x8 x11 1 σ
theorem b_Mg_addGroup_j156 {g : am_G} {σ0 : am_S} (F : Nat) (x0 : Nat) (x1 : Int32) (x2 : Int32) (x3 : Int32) (x4 : Int32) (x5 : Int32) (x6 : Int32) (x7 : Int32) (x8 : Int32) (x11 : Int32)   (σ : am_S) : am_W g mx_Mg_addGroup σ0 156 [some (.ref x0), some (.int x1), some (.int x2), some (.int x3), some (.int x4), some (.int x5), some (.int x6), some (.int x7), some (.int x8), none, none, some (.int x11), none, none, none] [] σ (f_Mg_addGroup_j156 F x0 x1 x2 x3 x4 x5 x6 x7 x8 x11 σ) am_kI := by
  unfold f_Mg_addGroup_j156
  refine aw_iload 11 (kk := ?_)
  refine aw_if_eq 23 181 (kt := fun _ => ?_) (kf := fun _ => ?_)
  · exact am_W.drop [true, true, true, true, true, true, true, true, true, false, false, true, false, false, false] (b_Mg_addGroup_j181 F x0 x1 x2 x3 x4 x5 x6 x7 x8 x11 σ)
  · refine aw_aload_n 0 (kk := ?_)
    refine aw_gA 6 1 32 (hw := wd_286) (kk := fun v32 => ?_)
    refine aw_iload_n 2 (kk := ?_)
    refine aw_aload_n 0 (kk := ?_)
    refine aw_gA 6 2 35 (hw := wd_287) (kk := fun v33 => ?_)
    refine aw_iload_n 3 (kk := ?_)
    refine ac_PI (st := []) [.ref v32, .int x2, .ref v33, .int x3] (ag_V 122 4 rc_Pm_comparePaths wd_792 cal_Pm_comparePaths wd_707 wd_708) cal_Pm_comparePaths ⟨by decide, by decide⟩ (Nat.le_of_ble_eq_true rfl) (m_Pm_comparePaths g F σ v32 x2 v33 x3) (fun v34 => ?_)
    refine aw_if_eq 7 181 (kt := fun _ => ?_) (kf := fun _ => ?_)
    · exact am_W.drop [true, true, true, true, true, true, true, true, true, false, false, true, false, false, false] (b_Mg_addGroup_j181 F x0 x1 x2 x3 x4 x5 x6 x7 x8 x11 σ)
    · refine aw_iconst 1 (v := 1) (kk := ?_)
      refine aw_goto 4 182 (kk := ?_)
      exact am_W.drop [true, true, true, true, true, true, true, true, true, false, false, true, false, false, false] (b_Mg_addGroup_j182 F x0 x1 x2 x3 x4 x5 x6 x7 x8 x11 1 σ)
def f_Mg_addGroup_j137 (F : Nat) (x0 : Nat) (x1 : Int32) (x2 : Int32) (x3 : Int32) (x4 : Int32) (x5 : Int32) (x6 : Int32) (x7 : Int32) (x8 : Int32) (x9 : Int32) (x10 : Int32) (t16 : Int32)  (σ : am_S) : Option (Int32 × am_S) :=
  if t16 = 0 then
    if x9 = 0 then
      f_Mg_addGroup_j156 F x0 x1 x2 x3 x4 x5 x6 x7 x8 t16 σ
    else
      if x10 = 0 then
        f_Mg_addGroup_j156 F x0 x1 x2 x3 x4 x5 x6 x7 x8 t16 σ
      else
        some (1, σ)
  else
    f_Mg_addGroup_j156 F x0 x1 x2 x3 x4 x5 x6 x7 x8 t16 σ
theorem b_Mg_addGroup_j137 {g : am_G} {σ0 : am_S} (F : Nat) (x0 : Nat) (x1 : Int32) (x2 : Int32) (x3 : Int32) (x4 : Int32) (x5 : Int32) (x6 : Int32) (x7 : Int32) (x8 : Int32) (x9 : Int32) (x10 : Int32) (t16 : Int32)   (σ : am_S) : am_W g mx_Mg_addGroup σ0 137 [some (.ref x0), some (.int x1), some (.int x2), some (.int x3), some (.int x4), some (.int x5), some (.int x6), some (.int x7), some (.int x8), some (.int x9), some (.int x10), none, none, none, none] [.int t16] σ (f_Mg_addGroup_j137 F x0 x1 x2 x3 x4 x5 x6 x7 x8 x9 x10 t16 σ) am_kI := by
  unfold f_Mg_addGroup_j137
  refine aw_istore 11 (kk := ?_)
  refine aw_iload 11 (kk := ?_)
  refine aw_if_ne 15 156 (kt := fun _ => ?_) (kf := fun _ => ?_)
  · exact am_W.drop [true, true, true, true, true, true, true, true, true, false, false, true, false, false, false] (b_Mg_addGroup_j156 F x0 x1 x2 x3 x4 x5 x6 x7 x8 t16 σ)
  · refine aw_iload 9 (kk := ?_)
    refine aw_if_eq 10 156 (kt := fun _ => ?_) (kf := fun _ => ?_)
    · exact am_W.drop [true, true, true, true, true, true, true, true, true, false, false, true, false, false, false] (b_Mg_addGroup_j156 F x0 x1 x2 x3 x4 x5 x6 x7 x8 t16 σ)
    · refine aw_iload 10 (kk := ?_)
      refine aw_if_eq 5 156 (kt := fun _ => ?_) (kf := fun _ => ?_)
      · exact am_W.drop [true, true, true, true, true, true, true, true, true, false, false, true, false, false, false] (b_Mg_addGroup_j156 F x0 x1 x2 x3 x4 x5 x6 x7 x8 t16 σ)
      · refine aw_iconst 1 (v := 1) (kk := ?_)
        exact aw_zretL (by decide)
def f_Mg_addGroup_j136 (F : Nat) (x0 : Nat) (x1 : Int32) (x2 : Int32) (x3 : Int32) (x4 : Int32) (x5 : Int32) (x6 : Int32) (x7 : Int32) (x8 : Int32) (x9 : Int32) (x10 : Int32)  (σ : am_S) : Option (Int32 × am_S) :=
  f_Mg_addGroup_j137 F x0 x1 x2 x3 x4 x5 x6 x7 x8 x9 x10 0 σ
theorem b_Mg_addGroup_j136 {g : am_G} {σ0 : am_S} (F : Nat) (x0 : Nat) (x1 : Int32) (x2 : Int32) (x3 : Int32) (x4 : Int32) (x5 : Int32) (x6 : Int32) (x7 : Int32) (x8 : Int32) (x9 : Int32) (x10 : Int32)   (σ : am_S) : am_W g mx_Mg_addGroup σ0 136 [some (.ref x0), some (.int x1), some (.int x2), some (.int x3), some (.int x4), some (.int x5), some (.int x6), some (.int x7), some (.int x8), some (.int x9), some (.int x10), none, none, none, none] [] σ (f_Mg_addGroup_j136 F x0 x1 x2 x3 x4 x5 x6 x7 x8 x9 x10 σ) am_kI := by
  unfold f_Mg_addGroup_j136
  refine aw_iconst 0 (v := 0) (kk := ?_)
  exact am_W.drop [true, true, true, true, true, true, true, true, true, true, true, false, false, false, false] (b_Mg_addGroup_j137 F x0 x1 x2 x3 x4 x5 x6 x7 x8 x9 x10 0 σ)
def f_Mg_addGroup_j122 (F : Nat) (x0 : Nat) (x1 : Int32) (x2 : Int32) (x3 : Int32) (x4 : Int32) (x5 : Int32) (x6 : Int32) (x7 : Int32) (x8 : Int32) (x9 : Int32) (t15 : Int32)  (σ : am_S) : Option (Int32 × am_S) :=
  if x2 < 0 then
    f_Mg_addGroup_j136 F x0 x1 x2 x3 x4 x5 x6 x7 x8 x9 t15 σ
  else
    if x3 < 0 then
      f_Mg_addGroup_j136 F x0 x1 x2 x3 x4 x5 x6 x7 x8 x9 t15 σ
    else
      f_Mg_addGroup_j137 F x0 x1 x2 x3 x4 x5 x6 x7 x8 x9 t15 1 σ
theorem b_Mg_addGroup_j122 {g : am_G} {σ0 : am_S} (F : Nat) (x0 : Nat) (x1 : Int32) (x2 : Int32) (x3 : Int32) (x4 : Int32) (x5 : Int32) (x6 : Int32) (x7 : Int32) (x8 : Int32) (x9 : Int32) (t15 : Int32)   (σ : am_S) : am_W g mx_Mg_addGroup σ0 122 [some (.ref x0), some (.int x1), some (.int x2), some (.int x3), some (.int x4), some (.int x5), some (.int x6), some (.int x7), some (.int x8), some (.int x9), none, none, none, none, none] [.int t15] σ (f_Mg_addGroup_j122 F x0 x1 x2 x3 x4 x5 x6 x7 x8 x9 t15 σ) am_kI := by
  unfold f_Mg_addGroup_j122
  refine aw_istore 10 (kk := ?_)
  refine aw_iload_n 2 (kk := ?_)
  refine aw_if_lt 11 136 (kt := fun _ => ?_) (kf := fun _ => ?_)
  · exact am_W.drop [true, true, true, true, true, true, true, true, true, true, true, false, false, false, false] (b_Mg_addGroup_j136 F x0 x1 x2 x3 x4 x5 x6 x7 x8 x9 t15 σ)
  · refine aw_iload_n 3 (kk := ?_)
    refine aw_if_lt 7 136 (kt := fun _ => ?_) (kf := fun _ => ?_)
    · exact am_W.drop [true, true, true, true, true, true, true, true, true, true, true, false, false, false, false] (b_Mg_addGroup_j136 F x0 x1 x2 x3 x4 x5 x6 x7 x8 x9 t15 σ)
    · refine aw_iconst 1 (v := 1) (kk := ?_)
      refine aw_goto 4 137 (kk := ?_)
      exact am_W.drop [true, true, true, true, true, true, true, true, true, true, true, false, false, false, false] (b_Mg_addGroup_j137 F x0 x1 x2 x3 x4 x5 x6 x7 x8 x9 t15 1 σ)
def f_Mg_addGroup_j117 (F : Nat) (x0 : Nat) (x1 : Int32) (x2 : Int32) (x3 : Int32) (x4 : Int32) (x5 : Int32) (x6 : Int32) (x7 : Int32) (x8 : Int32) (x9 : Int32)  (σ : am_S) : Option (Int32 × am_S) :=
  f_Mg_addGroup_j122 F x0 x1 x2 x3 x4 x5 x6 x7 x8 x9 1 σ
theorem b_Mg_addGroup_j117 {g : am_G} {σ0 : am_S} (F : Nat) (x0 : Nat) (x1 : Int32) (x2 : Int32) (x3 : Int32) (x4 : Int32) (x5 : Int32) (x6 : Int32) (x7 : Int32) (x8 : Int32) (x9 : Int32)   (σ : am_S) : am_W g mx_Mg_addGroup σ0 117 [some (.ref x0), some (.int x1), some (.int x2), some (.int x3), some (.int x4), some (.int x5), some (.int x6), some (.int x7), some (.int x8), some (.int x9), none, none, none, none, none] [] σ (f_Mg_addGroup_j117 F x0 x1 x2 x3 x4 x5 x6 x7 x8 x9 σ) am_kI := by
  unfold f_Mg_addGroup_j117
  refine aw_iconst 1 (v := 1) (kk := ?_)
  refine aw_goto 4 122 (kk := ?_)
  exact am_W.drop [true, true, true, true, true, true, true, true, true, true, false, false, false, false, false] (b_Mg_addGroup_j122 F x0 x1 x2 x3 x4 x5 x6 x7 x8 x9 1 σ)
def f_Mg_addGroup_j121 (F : Nat) (x0 : Nat) (x1 : Int32) (x2 : Int32) (x3 : Int32) (x4 : Int32) (x5 : Int32) (x6 : Int32) (x7 : Int32) (x8 : Int32) (x9 : Int32)  (σ : am_S) : Option (Int32 × am_S) :=
  f_Mg_addGroup_j122 F x0 x1 x2 x3 x4 x5 x6 x7 x8 x9 0 σ
theorem b_Mg_addGroup_j121 {g : am_G} {σ0 : am_S} (F : Nat) (x0 : Nat) (x1 : Int32) (x2 : Int32) (x3 : Int32) (x4 : Int32) (x5 : Int32) (x6 : Int32) (x7 : Int32) (x8 : Int32) (x9 : Int32)   (σ : am_S) : am_W g mx_Mg_addGroup σ0 121 [some (.ref x0), some (.int x1), some (.int x2), some (.int x3), some (.int x4), some (.int x5), some (.int x6), some (.int x7), some (.int x8), some (.int x9), none, none, none, none, none] [] σ (f_Mg_addGroup_j121 F x0 x1 x2 x3 x4 x5 x6 x7 x8 x9 σ) am_kI := by
  unfold f_Mg_addGroup_j121
  refine aw_iconst 0 (v := 0) (kk := ?_)
  exact am_W.drop [true, true, true, true, true, true, true, true, true, true, false, false, false, false, false] (b_Mg_addGroup_j122 F x0 x1 x2 x3 x4 x5 x6 x7 x8 x9 0 σ)
def f_Mg_addGroup_j99 (F : Nat) (x0 : Nat) (x1 : Int32) (x2 : Int32) (x3 : Int32) (x4 : Int32) (x5 : Int32) (x6 : Int32) (x7 : Int32) (x8 : Int32) (t14 : Int32)  (σ : am_S) : Option (Int32 × am_S) :=
  if x3 < 0 then
    f_Mg_addGroup_j117 F x0 x1 x2 x3 x4 x5 x6 x7 x8 t14 σ
  else
    if x8 = 0 then
      f_Mg_addGroup_j121 F x0 x1 x2 x3 x4 x5 x6 x7 x8 t14 σ
    else
      if x6 = x4 then
        f_Mg_addGroup_j117 F x0 x1 x2 x3 x4 x5 x6 x7 x8 t14 σ
      else
        f_Mg_addGroup_j121 F x0 x1 x2 x3 x4 x5 x6 x7 x8 t14 σ
theorem b_Mg_addGroup_j99 {g : am_G} {σ0 : am_S} (F : Nat) (x0 : Nat) (x1 : Int32) (x2 : Int32) (x3 : Int32) (x4 : Int32) (x5 : Int32) (x6 : Int32) (x7 : Int32) (x8 : Int32) (t14 : Int32)   (σ : am_S) : am_W g mx_Mg_addGroup σ0 99 [some (.ref x0), some (.int x1), some (.int x2), some (.int x3), some (.int x4), some (.int x5), some (.int x6), some (.int x7), some (.int x8), none, none, none, none, none, none] [.int t14] σ (f_Mg_addGroup_j99 F x0 x1 x2 x3 x4 x5 x6 x7 x8 t14 σ) am_kI := by
  unfold f_Mg_addGroup_j99
  refine aw_istore 9 (kk := ?_)
  refine aw_iload_n 3 (kk := ?_)
  refine aw_if_lt 15 117 (kt := fun _ => ?_) (kf := fun _ => ?_)
  · exact am_W.drop [true, true, true, true, true, true, true, true, true, true, false, false, false, false, false] (b_Mg_addGroup_j117 F x0 x1 x2 x3 x4 x5 x6 x7 x8 t14 σ)
  · refine aw_iload 8 (kk := ?_)
    refine aw_if_eq 14 121 (kt := fun _ => ?_) (kf := fun _ => ?_)
    · exact am_W.drop [true, true, true, true, true, true, true, true, true, true, false, false, false, false, false] (b_Mg_addGroup_j121 F x0 x1 x2 x3 x4 x5 x6 x7 x8 t14 σ)
    · refine aw_iload 6 (kk := ?_)
      refine aw_iload 4 (kk := ?_)
      refine aw_icmp_ne 7 121 (kt := fun _ => ?_) (kf := fun _ => ?_)
      · exact am_W.drop [true, true, true, true, true, true, true, true, true, true, false, false, false, false, false] (b_Mg_addGroup_j121 F x0 x1 x2 x3 x4 x5 x6 x7 x8 t14 σ)
      · exact am_W.drop [true, true, true, true, true, true, true, true, true, true, false, false, false, false, false] (b_Mg_addGroup_j117 F x0 x1 x2 x3 x4 x5 x6 x7 x8 t14 σ)
def f_Mg_addGroup_j94 (F : Nat) (x0 : Nat) (x1 : Int32) (x2 : Int32) (x3 : Int32) (x4 : Int32) (x5 : Int32) (x6 : Int32) (x7 : Int32) (x8 : Int32)  (σ : am_S) : Option (Int32 × am_S) :=
  f_Mg_addGroup_j99 F x0 x1 x2 x3 x4 x5 x6 x7 x8 1 σ
theorem b_Mg_addGroup_j94 {g : am_G} {σ0 : am_S} (F : Nat) (x0 : Nat) (x1 : Int32) (x2 : Int32) (x3 : Int32) (x4 : Int32) (x5 : Int32) (x6 : Int32) (x7 : Int32) (x8 : Int32)   (σ : am_S) : am_W g mx_Mg_addGroup σ0 94 [some (.ref x0), some (.int x1), some (.int x2), some (.int x3), some (.int x4), some (.int x5), some (.int x6), some (.int x7), some (.int x8), none, none, none, none, none, none] [] σ (f_Mg_addGroup_j94 F x0 x1 x2 x3 x4 x5 x6 x7 x8 σ) am_kI := by
  unfold f_Mg_addGroup_j94
  refine aw_iconst 1 (v := 1) (kk := ?_)
  refine aw_goto 4 99 (kk := ?_)
  exact am_W.drop [true, true, true, true, true, true, true, true, true, false, false, false, false, false, false] (b_Mg_addGroup_j99 F x0 x1 x2 x3 x4 x5 x6 x7 x8 1 σ)
def f_Mg_addGroup_j98 (F : Nat) (x0 : Nat) (x1 : Int32) (x2 : Int32) (x3 : Int32) (x4 : Int32) (x5 : Int32) (x6 : Int32) (x7 : Int32) (x8 : Int32)  (σ : am_S) : Option (Int32 × am_S) :=
  f_Mg_addGroup_j99 F x0 x1 x2 x3 x4 x5 x6 x7 x8 0 σ
theorem b_Mg_addGroup_j98 {g : am_G} {σ0 : am_S} (F : Nat) (x0 : Nat) (x1 : Int32) (x2 : Int32) (x3 : Int32) (x4 : Int32) (x5 : Int32) (x6 : Int32) (x7 : Int32) (x8 : Int32)   (σ : am_S) : am_W g mx_Mg_addGroup σ0 98 [some (.ref x0), some (.int x1), some (.int x2), some (.int x3), some (.int x4), some (.int x5), some (.int x6), some (.int x7), some (.int x8), none, none, none, none, none, none] [] σ (f_Mg_addGroup_j98 F x0 x1 x2 x3 x4 x5 x6 x7 x8 σ) am_kI := by
  unfold f_Mg_addGroup_j98
  refine aw_iconst 0 (v := 0) (kk := ?_)
  exact am_W.drop [true, true, true, true, true, true, true, true, true, false, false, false, false, false, false] (b_Mg_addGroup_j99 F x0 x1 x2 x3 x4 x5 x6 x7 x8 0 σ)
def f_Mg_addGroup_j52 (F : Nat) (x0 : Nat) (x1 : Int32) (x2 : Int32) (x3 : Int32) (x4 : Int32) (x5 : Int32) (t9 : Int32)  (σ : am_S) : Option (Int32 × am_S) :=
  (am_gA σ 6 1 x0).bind fun v10 =>
  (f_Mg_isPathOfBase F σ x0 x1 v10 x2).bind fun v11 =>
  (am_gA σ 6 2 x0).bind fun v12 =>
  (f_Mg_isPathOfBase F σ x0 x1 v12 x3).bind fun v13 =>
  if x2 < 0 then
    f_Mg_addGroup_j94 F x0 x1 x2 x3 x4 x5 t9 v11 v13 σ
  else
    if v11 = 0 then
      f_Mg_addGroup_j98 F x0 x1 x2 x3 x4 x5 t9 v11 v13 σ
    else
      if x5 = x4 then
        f_Mg_addGroup_j94 F x0 x1 x2 x3 x4 x5 t9 v11 v13 σ
      else
        f_Mg_addGroup_j98 F x0 x1 x2 x3 x4 x5 t9 v11 v13 σ
theorem b_Mg_addGroup_j52 {g : am_G} {σ0 : am_S} (F : Nat) (x0 : Nat) (x1 : Int32) (x2 : Int32) (x3 : Int32) (x4 : Int32) (x5 : Int32) (t9 : Int32)   (σ : am_S) : am_W g mx_Mg_addGroup σ0 52 [some (.ref x0), some (.int x1), some (.int x2), some (.int x3), some (.int x4), some (.int x5), none, none, none, none, none, none, none, none, none] [.int t9] σ (f_Mg_addGroup_j52 F x0 x1 x2 x3 x4 x5 t9 σ) am_kI := by
  unfold f_Mg_addGroup_j52
  refine aw_istore 6 (kk := ?_)
  refine aw_aload_n 0 (kk := ?_)
  refine aw_iload_n 1 (kk := ?_)
  refine aw_aload_n 0 (kk := ?_)
  refine aw_gA 6 1 32 (hw := wd_286) (kk := fun v10 => ?_)
  refine aw_iload_n 2 (kk := ?_)
  refine ac_PI (st := []) [.ref x0, .int x1, .ref v10, .int x2] (ag_V 118 6 rc_Mg_isPathOfBase wd_788 cal_Mg_isPathOfBase wd_790 ws_29) cal_Mg_isPathOfBase ⟨by decide, by decide⟩ (Nat.le_of_ble_eq_true rfl) (m_Mg_isPathOfBase g F σ x0 x1 v10 x2) (fun v11 => ?_)
  refine aw_istore 7 (kk := ?_)
  refine aw_aload_n 0 (kk := ?_)
  refine aw_iload_n 1 (kk := ?_)
  refine aw_aload_n 0 (kk := ?_)
  refine aw_gA 6 2 35 (hw := wd_287) (kk := fun v12 => ?_)
  refine aw_iload_n 3 (kk := ?_)
  refine ac_PI (st := []) [.ref x0, .int x1, .ref v12, .int x3] (ag_V 118 6 rc_Mg_isPathOfBase wd_788 cal_Mg_isPathOfBase wd_790 ws_29) cal_Mg_isPathOfBase ⟨by decide, by decide⟩ (Nat.le_of_ble_eq_true rfl) (m_Mg_isPathOfBase g F σ x0 x1 v12 x3) (fun v13 => ?_)
  refine aw_istore 8 (kk := ?_)
  refine aw_iload_n 2 (kk := ?_)
  refine aw_if_lt 15 94 (kt := fun _ => ?_) (kf := fun _ => ?_)
  · exact am_W.drop [true, true, true, true, true, true, true, true, true, false, false, false, false, false, false] (b_Mg_addGroup_j94 F x0 x1 x2 x3 x4 x5 t9 v11 v13 σ)
  · refine aw_iload 7 (kk := ?_)
    refine aw_if_eq 14 98 (kt := fun _ => ?_) (kf := fun _ => ?_)
    · exact am_W.drop [true, true, true, true, true, true, true, true, true, false, false, false, false, false, false] (b_Mg_addGroup_j98 F x0 x1 x2 x3 x4 x5 t9 v11 v13 σ)
    · refine aw_iload 5 (kk := ?_)
      refine aw_iload 4 (kk := ?_)
      refine aw_icmp_ne 7 98 (kt := fun _ => ?_) (kf := fun _ => ?_)
      · exact am_W.drop [true, true, true, true, true, true, true, true, true, false, false, false, false, false, false] (b_Mg_addGroup_j98 F x0 x1 x2 x3 x4 x5 t9 v11 v13 σ)
      · exact am_W.drop [true, true, true, true, true, true, true, true, true, false, false, false, false, false, false] (b_Mg_addGroup_j94 F x0 x1 x2 x3 x4 x5 t9 v11 v13 σ)
def f_Mg_addGroup_j34 (F : Nat) (x0 : Nat) (x1 : Int32) (x2 : Int32) (x3 : Int32) (x4 : Int32) (t6 : Int32)  (σ : am_S) : Option (Int32 × am_S) :=
  if 0 ≤ x3 then
    (am_gA σ 6 2 x0).bind fun v7 =>
    (f_Pm_valueAt F σ v7 x3).bind fun v8 =>
    f_Mg_addGroup_j52 F x0 x1 x2 x3 x4 t6 v8 σ
  else
    f_Mg_addGroup_j52 F x0 x1 x2 x3 x4 t6 (-1) σ
theorem b_Mg_addGroup_j34 {g : am_G} {σ0 : am_S} (F : Nat) (x0 : Nat) (x1 : Int32) (x2 : Int32) (x3 : Int32) (x4 : Int32) (t6 : Int32)   (σ : am_S) : am_W g mx_Mg_addGroup σ0 34 [some (.ref x0), some (.int x1), some (.int x2), some (.int x3), some (.int x4), none, none, none, none, none, none, none, none, none, none] [.int t6] σ (f_Mg_addGroup_j34 F x0 x1 x2 x3 x4 t6 σ) am_kI := by
  unfold f_Mg_addGroup_j34
  refine aw_istore 5 (kk := ?_)
  refine aw_iload_n 3 (kk := ?_)
  refine aw_if_ge 7 44 (kt := fun _ => ?_) (kf := fun _ => ?_)
  · refine aw_aload_n 0 (kk := ?_)
    refine aw_gA 6 2 35 (hw := wd_287) (kk := fun v7 => ?_)
    refine aw_iload_n 3 (kk := ?_)
    refine ac_PI (st := []) [.ref v7, .int x3] (ag_V 115 4 rc_Pm_valueAt wd_787 cal_Pm_valueAt wd_723 wd_724) cal_Pm_valueAt ⟨by decide, by decide⟩ (Nat.le_of_ble_eq_true rfl) (m_Pm_valueAt g F σ v7 x3) (fun v8 => ?_)
    exact am_W.drop [true, true, true, true, true, true, false, false, false, false, false, false, false, false, false] (b_Mg_addGroup_j52 F x0 x1 x2 x3 x4 t6 v8 σ)
  · refine aw_iconst (-1) (v := (-1)) (kk := ?_)
    refine aw_goto 11 52 (kk := ?_)
    exact am_W.drop [true, true, true, true, true, true, false, false, false, false, false, false, false, false, false] (b_Mg_addGroup_j52 F x0 x1 x2 x3 x4 t6 (-1) σ)
def f_Mg_addGroup_j16 (F : Nat) (x0 : Nat) (x1 : Int32) (x2 : Int32) (x3 : Int32) (t3 : Int32)  (σ : am_S) : Option (Int32 × am_S) :=
  if 0 ≤ x2 then
    (am_gA σ 6 1 x0).bind fun v4 =>
    (f_Pm_valueAt F σ v4 x2).bind fun v5 =>
    f_Mg_addGroup_j34 F x0 x1 x2 x3 t3 v5 σ
  else
    f_Mg_addGroup_j34 F x0 x1 x2 x3 t3 (-1) σ
theorem b_Mg_addGroup_j16 {g : am_G} {σ0 : am_S} (F : Nat) (x0 : Nat) (x1 : Int32) (x2 : Int32) (x3 : Int32) (t3 : Int32)   (σ : am_S) : am_W g mx_Mg_addGroup σ0 16 [some (.ref x0), some (.int x1), some (.int x2), some (.int x3), none, none, none, none, none, none, none, none, none, none, none] [.int t3] σ (f_Mg_addGroup_j16 F x0 x1 x2 x3 t3 σ) am_kI := by
  unfold f_Mg_addGroup_j16
  refine aw_istore 4 (kk := ?_)
  refine aw_iload_n 2 (kk := ?_)
  refine aw_if_ge 7 26 (kt := fun _ => ?_) (kf := fun _ => ?_)
  · refine aw_aload_n 0 (kk := ?_)
    refine aw_gA 6 1 32 (hw := wd_286) (kk := fun v4 => ?_)
    refine aw_iload_n 2 (kk := ?_)
    refine ac_PI (st := []) [.ref v4, .int x2] (ag_V 115 4 rc_Pm_valueAt wd_787 cal_Pm_valueAt wd_723 wd_724) cal_Pm_valueAt ⟨by decide, by decide⟩ (Nat.le_of_ble_eq_true rfl) (m_Pm_valueAt g F σ v4 x2) (fun v5 => ?_)
    exact am_W.drop [true, true, true, true, true, false, false, false, false, false, false, false, false, false, false] (b_Mg_addGroup_j34 F x0 x1 x2 x3 t3 v5 σ)
  · refine aw_iconst (-1) (v := (-1)) (kk := ?_)
    refine aw_goto 11 34 (kk := ?_)
    exact am_W.drop [true, true, true, true, true, false, false, false, false, false, false, false, false, false, false] (b_Mg_addGroup_j34 F x0 x1 x2 x3 t3 (-1) σ)
def f_Mg_addGroup (F : Nat) (σ : am_S) (x0 : Nat) (x1 : Int32) (x2 : Int32) (x3 : Int32) : Option (Int32 × am_S) :=
  am_ck σ 6 x0 (
  if 0 ≤ x1 then
    (am_gA σ 6 0 x0).bind fun v1 =>
    (f_Pm_valueAt F σ v1 x1).bind fun v2 =>
    f_Mg_addGroup_j16 F x0 x1 x2 x3 v2 σ
  else
    f_Mg_addGroup_j16 F x0 x1 x2 x3 (-1) σ)
theorem rc_Mg_addGroup {F : Nat} {σ : am_S} {x0 : Nat} {x1 : Int32} {x2 : Int32} {x3 : Int32} (h : (f_Mg_addGroup F σ x0 x1 x2 x3).isSome = true) : ∃ fs, σ.2.2 x0 = some (.inr (6, fs)) := am_ck_some h
theorem m_Mg_addGroup (g : am_G) (F : Nat) (σ : am_S) (x0 : Nat) (x1 : Int32) (x2 : Int32) (x3 : Int32) : am_Met g mx_Mg_addGroup [.ref x0, .int x1, .int x2, .int x3] σ ((f_Mg_addGroup F σ x0 x1 x2 x3).bind am_kI) := by
  refine am_Met.of (lv := [some (.ref x0), some (.int x1), some (.int x2), some (.int x3), none, none, none, none, none, none, none, none, none, none, none]) (am_cc rfl (am_cc rfl (am_cc rfl (am_cc rfl am_c0)))) (Nat.le_of_ble_eq_true rfl) rfl (by decide) ?_
  unfold f_Mg_addGroup
  refine am_W.ck ?_
  refine aw_iload_n 1 (kk := ?_)
  refine aw_if_ge 7 8 (kt := fun _ => ?_) (kf := fun _ => ?_)
  · refine aw_aload_n 0 (kk := ?_)
    refine aw_gA 6 0 28 (hw := wd_285) (kk := fun v1 => ?_)
    refine aw_iload_n 1 (kk := ?_)
    refine ac_PI (st := []) [.ref v1, .int x1] (ag_V 115 4 rc_Pm_valueAt wd_787 cal_Pm_valueAt wd_723 wd_724) cal_Pm_valueAt ⟨by decide, by decide⟩ (Nat.le_of_ble_eq_true rfl) (m_Pm_valueAt g F σ v1 x1) (fun v2 => ?_)
    exact am_W.drop [true, true, true, true, false, false, false, false, false, false, false, false, false, false, false] (b_Mg_addGroup_j16 F x0 x1 x2 x3 v2 σ)
  · refine aw_iconst (-1) (v := (-1)) (kk := ?_)
    refine aw_goto 11 16 (kk := ?_)
    exact am_W.drop [true, true, true, true, false, false, false, false, false, false, false, false, false, false, false] (b_Mg_addGroup_j16 F x0 x1 x2 x3 (-1) σ)
def f_Mg_chooseBlob (F : Nat) (σ : am_S) (x0 : Int32) (x1 : Int32) (x2 : Int32) : Option (Int32) :=
  if 0 ≤ x1 then
    if x2 < 0 then
      some x1
    else
      if x2 = x1 then
        some x1
      else
        if x2 = x0 then
          some x1
        else
          if x1 = x0 then
            some x2
          else
            some (-1)
  else
    some x2
theorem m_Mg_chooseBlob (g : am_G) (F : Nat) (σ : am_S) (x0 : Int32) (x1 : Int32) (x2 : Int32) : am_Met g mx_Mg_chooseBlob [.int x0, .int x1, .int x2] σ ((f_Mg_chooseBlob F σ x0 x1 x2).bind (am_kPI σ)) := by
  refine am_Met.of (lv := [some (.int x0), some (.int x1), some (.int x2)]) (am_cc rfl (am_cc rfl (am_cc rfl am_c0))) (Nat.le_of_ble_eq_true rfl) rfl (by decide) ?_
  unfold f_Mg_chooseBlob
  refine aw_iload_n 1 (kk := ?_)
  refine aw_if_ge 5 6 (kt := fun _ => ?_) (kf := fun _ => ?_)
  · refine aw_iload_n 2 (kk := ?_)
    refine aw_if_lt 13 20 (kt := fun _ => ?_) (kf := fun _ => ?_)
    · refine aw_iload_n 1 (kk := ?_)
      exact aw_iretP
    · refine aw_iload_n 2 (kk := ?_)
      refine aw_iload_n 1 (kk := ?_)
      refine aw_icmp_eq 8 20 (kt := fun _ => ?_) (kf := fun _ => ?_)
      · refine aw_iload_n 1 (kk := ?_)
        exact aw_iretP
      · refine aw_iload_n 2 (kk := ?_)
        refine aw_iload_n 0 (kk := ?_)
        refine aw_icmp_ne 5 22 (kt := fun _ => ?_) (kf := fun _ => ?_)
        · refine aw_iload_n 1 (kk := ?_)
          refine aw_iload_n 0 (kk := ?_)
          refine aw_icmp_ne 7 31 (kt := fun _ => ?_) (kf := fun _ => ?_)
          · refine aw_iconst (-1) (v := (-1)) (kk := ?_)
            exact aw_iretP
          · refine aw_iload_n 2 (kk := ?_)
            refine aw_goto 4 32 (kk := ?_)
            exact aw_iretP
        · refine aw_iload_n 1 (kk := ?_)
          exact aw_iretP
  · refine aw_iload_n 2 (kk := ?_)
    exact aw_iretP
def f_Mg_giveMergedText_j49 (F : Nat) (x0 : Nat) (x1 : Int32)  (σ : am_S) : Option (Int32 × am_S) :=
  (am_gA σ 6 14 x0).bind fun v3 =>
  (am_gA σ 6 11 x0).bind fun v4 =>
  (f_Tm_text F σ v4).bind fun v5 =>
  (am_gA σ 6 11 x0).bind fun v6 =>
  (f_Tm_length F σ v6).bind fun v7 =>
  am_b2 (f_Oc_keepText F σ v3 x1 v5 v7) fun v8 σ9 =>
  am_z v8 σ9
theorem b_Mg_giveMergedText_j49 {g : am_G} {σ0 : am_S} (F : Nat) (x0 : Nat) (x1 : Int32)   (σ : am_S) : am_W g mx_Mg_giveMergedText σ0 49 [some (.ref x0), some (.int x1), none] [] σ (f_Mg_giveMergedText_j49 F x0 x1 σ) am_kI := by
  unfold f_Mg_giveMergedText_j49
  refine aw_aload_n 0 (kk := ?_)
  refine aw_gA 6 14 68 (hw := wd_299) (kk := fun v3 => ?_)
  refine aw_iload_n 1 (kk := ?_)
  refine aw_aload_n 0 (kk := ?_)
  refine aw_gA 6 11 57 (hw := wd_296) (kk := fun v4 => ?_)
  refine ac_PA (st := [.int x1, .ref v3]) [.ref v4] (ag_V 162 7 rc_Tm_text wd_990 cal_Tm_text wd_991 wd_992) cal_Tm_text ⟨by decide, by decide⟩ (Nat.le_of_ble_eq_true rfl) (m_Tm_text g F σ v4) (fun v5 => ?_)
  refine aw_aload_n 0 (kk := ?_)
  refine aw_gA 6 11 57 (hw := wd_296) (kk := fun v6 => ?_)
  refine ac_PI (st := [.ref v5, .int x1, .ref v3]) [.ref v6] (ag_V 166 7 rc_Tm_length wd_994 cal_Tm_length wd_995 wd_996) cal_Tm_length ⟨by decide, by decide⟩ (Nat.le_of_ble_eq_true rfl) (m_Tm_length g F σ v6) (fun v7 => ?_)
  refine ac_I (st := []) [.ref v3, .int x1, .ref v5, .int v7] (ag_V 175 9 rc_Oc_keepText wd_999 cal_Oc_keepText wd_1000 wd_1001) cal_Oc_keepText ⟨by decide, by decide⟩ (Nat.le_of_ble_eq_true rfl) (m_Oc_keepText g F σ v3 x1 v5 v7) (fun v8 σ9 => ?_)
  exact aw_zret
def f_Mg_giveMergedText (F : Nat) (σ : am_S) (x0 : Nat) (x1 : Int32) : Option (Int32 × am_S) :=
  am_ck σ 6 x0 (
  (am_gA σ 6 14 x0).bind fun v1 =>
  (f_Oc_recordIsUnmerged F σ v1 x1).bind fun v2 =>
  if v2 = 0 then
    (am_gA σ 6 3 x0).bind fun v10 =>
    (am_gA σ 6 11 x0).bind fun v11 =>
    (f_Tm_text F σ v11).bind fun v12 =>
    (am_gA σ 6 11 x0).bind fun v13 =>
    (f_Tm_length F σ v13).bind fun v14 =>
    (f_Bl_find F σ v10 v12 0 v14).bind fun v15 =>
    if v15 < 0 then
      f_Mg_giveMergedText_j49 F x0 x1 σ
    else
      (am_gA σ 6 14 x0).bind fun v16 =>
      (f_Oc_setBlob F σ v16 x1 v15).bind fun σ17 =>
      some (1, σ17)
  else
    f_Mg_giveMergedText_j49 F x0 x1 σ)
theorem rc_Mg_giveMergedText {F : Nat} {σ : am_S} {x0 : Nat} {x1 : Int32} (h : (f_Mg_giveMergedText F σ x0 x1).isSome = true) : ∃ fs, σ.2.2 x0 = some (.inr (6, fs)) := am_ck_some h
theorem m_Mg_giveMergedText (g : am_G) (F : Nat) (σ : am_S) (x0 : Nat) (x1 : Int32) : am_Met g mx_Mg_giveMergedText [.ref x0, .int x1] σ ((f_Mg_giveMergedText F σ x0 x1).bind am_kI) := by
  refine am_Met.of (lv := [some (.ref x0), some (.int x1), none]) (am_cc rfl (am_cc rfl am_c0)) (Nat.le_of_ble_eq_true rfl) rfl (by decide) ?_
  unfold f_Mg_giveMergedText
  refine am_W.ck ?_
  refine aw_aload_n 0 (kk := ?_)
  refine aw_gA 6 14 68 (hw := wd_299) (kk := fun v1 => ?_)
  refine aw_iload_n 1 (kk := ?_)
  refine ac_PI (st := []) [.ref v1, .int x1] (ag_V 159 9 rc_Oc_recordIsUnmerged wd_986 cal_Oc_recordIsUnmerged wd_987 wd_988) cal_Oc_recordIsUnmerged ⟨by decide, by decide⟩ (Nat.le_of_ble_eq_true rfl) (m_Oc_recordIsUnmerged g F σ v1 x1) (fun v2 => ?_)
  refine aw_if_ne 41 49 (kt := fun _ => ?_) (kf := fun _ => ?_)
  · exact am_W.drop [true, true, false] (b_Mg_giveMergedText_j49 F x0 x1 σ)
  · refine aw_aload_n 0 (kk := ?_)
    refine aw_gA 6 3 38 (hw := wd_288) (kk := fun v10 => ?_)
    refine aw_aload_n 0 (kk := ?_)
    refine aw_gA 6 11 57 (hw := wd_296) (kk := fun v11 => ?_)
    refine ac_PA (st := [.ref v10]) [.ref v11] (ag_V 162 7 rc_Tm_text wd_990 cal_Tm_text wd_991 wd_992) cal_Tm_text ⟨by decide, by decide⟩ (Nat.le_of_ble_eq_true rfl) (m_Tm_text g F σ v11) (fun v12 => ?_)
    refine aw_iconst 0 (v := 0) (kk := ?_)
    refine aw_aload_n 0 (kk := ?_)
    refine aw_gA 6 11 57 (hw := wd_296) (kk := fun v13 => ?_)
    refine ac_PI (st := [.int 0, .ref v12, .ref v10]) [.ref v13] (ag_V 166 7 rc_Tm_length wd_994 cal_Tm_length wd_995 wd_996) cal_Tm_length ⟨by decide, by decide⟩ (Nat.le_of_ble_eq_true rfl) (m_Tm_length g F σ v13) (fun v14 => ?_)
    refine ac_PI (st := []) [.ref v10, .ref v12, .int 0, .int v14] (ag_V 169 2 rc_Bl_find wd_998 cal_Bl_find wd_589 wd_590) cal_Bl_find ⟨by decide, by decide⟩ (Nat.le_of_ble_eq_true rfl) (m_Bl_find g F σ v10 v12 0 v14) (fun v15 => ?_)
    refine aw_istore_n 2 (kk := ?_)
    refine aw_iload_n 2 (kk := ?_)
    refine aw_if_lt 14 49 (kt := fun _ => ?_) (kf := fun _ => ?_)
    · exact am_W.drop [true, true, false] (b_Mg_giveMergedText_j49 F x0 x1 σ)
    · refine aw_aload_n 0 (kk := ?_)
      refine aw_gA 6 14 68 (hw := wd_299) (kk := fun v16 => ?_)
      refine aw_iload_n 1 (kk := ?_)
      refine aw_iload_n 2 (kk := ?_)
      refine ac_V (st := []) [.ref v16, .int x1, .int v15] (ag_V 145 9 rc_Oc_setBlob wd_821 cal_Oc_setBlob wd_822 wd_823) cal_Oc_setBlob ⟨by decide, by decide⟩ (Nat.le_of_ble_eq_true rfl) (m_Oc_setBlob g F σ v16 x1 v15) (fun σ17 => ?_)
      refine aw_iconst 1 (v := 1) (kk := ?_)
      exact aw_zretL (by decide)
def f_Mg_giveText_j86 (F : Nat) (x0 : Nat) (x1 : Int32)  (σ : am_S) : Option (Int32 × am_S) :=
  am_b2 (f_Mg_giveMergedText F σ x0 x1) fun v12 σ13 =>
  am_z v12 σ13
theorem b_Mg_giveText_j86 {g : am_G} {σ0 : am_S} (F : Nat) (x0 : Nat) (x1 : Int32)   (σ : am_S) : am_W g mx_Mg_giveText σ0 86 [some (.ref x0), some (.int x1), none, none, none, none] [] σ (f_Mg_giveText_j86 F x0 x1 σ) am_kI := by
  unfold f_Mg_giveText_j86
  refine aw_aload_n 0 (kk := ?_)
  refine aw_iload_n 1 (kk := ?_)
  refine ac_I (st := []) [.ref x0, .int x1] (ag_V 156 6 rc_Mg_giveMergedText wd_982 cal_Mg_giveMergedText wd_984 ws_41) cal_Mg_giveMergedText ⟨by decide, by decide⟩ (Nat.le_of_ble_eq_true rfl) (m_Mg_giveMergedText g F σ x0 x1) (fun v12 σ13 => ?_)
  exact aw_zret
def f_Mg_giveText (F : Nat) (σ : am_S) (x0 : Nat) (x1 : Int32) : Option (Int32 × am_S) :=
  am_ck σ 6 x0 (
  (am_gA σ 6 14 x0).bind fun v1 =>
  (f_Oc_sourceOf F σ v1 x1 0).bind fun v2 =>
  (am_gA σ 6 14 x0).bind fun v3 =>
  (f_Oc_sourceOf F σ v3 x1 1).bind fun v4 =>
  (am_gA σ 6 14 x0).bind fun v5 =>
  (f_Oc_sourceOf F σ v5 x1 2).bind fun v6 =>
  (f_Mg_chooseBlob F σ v2 v4 v6).bind fun v7 =>
  if v7 < 0 then
    (am_gA σ 6 11 x0).bind fun v8 =>
    (f_Tm_mergeTexts F σ v8 v2 v4 v6).bind fun σ9 =>
    (am_gA σ9 6 11 x0).bind fun v10 =>
    (f_Tm_hasConflict F σ9 v10).bind fun v11 =>
    if v11 = 0 then
      f_Mg_giveText_j86 F x0 x1 σ9
    else
      (am_gA σ9 6 14 x0).bind fun v14 =>
      (f_Oc_setUnmerged F σ9 v14 x1).bind fun σ15 =>
      f_Mg_giveText_j86 F x0 x1 σ15
  else
    (am_gA σ 6 14 x0).bind fun v16 =>
    (f_Oc_setBlob F σ v16 x1 v7).bind fun σ17 =>
    some (1, σ17))
theorem rc_Mg_giveText {F : Nat} {σ : am_S} {x0 : Nat} {x1 : Int32} (h : (f_Mg_giveText F σ x0 x1).isSome = true) : ∃ fs, σ.2.2 x0 = some (.inr (6, fs)) := am_ck_some h
theorem m_Mg_giveText (g : am_G) (F : Nat) (σ : am_S) (x0 : Nat) (x1 : Int32) : am_Met g mx_Mg_giveText [.ref x0, .int x1] σ ((f_Mg_giveText F σ x0 x1).bind am_kI) := by
  refine am_Met.of (lv := [some (.ref x0), some (.int x1), none, none, none, none]) (am_cc rfl (am_cc rfl am_c0)) (Nat.le_of_ble_eq_true rfl) rfl (by decide) ?_
  unfold f_Mg_giveText
  refine am_W.ck ?_
  refine aw_aload_n 0 (kk := ?_)
  refine aw_gA 6 14 68 (hw := wd_299) (kk := fun v1 => ?_)
  refine aw_iload_n 1 (kk := ?_)
  refine aw_iconst 0 (v := 0) (kk := ?_)
  refine ac_PI (st := []) [.ref v1, .int x1, .int 0] (ag_V 137 9 rc_Oc_sourceOf wd_814 cal_Oc_sourceOf wd_815 wd_816) cal_Oc_sourceOf ⟨by decide, by decide⟩ (Nat.le_of_ble_eq_true rfl) (m_Oc_sourceOf g F σ v1 x1 0) (fun v2 => ?_)
  refine aw_istore_n 2 (kk := ?_)
  refine aw_aload_n 0 (kk := ?_)
  refine aw_gA 6 14 68 (hw := wd_299) (kk := fun v3 => ?_)
  refine aw_iload_n 1 (kk := ?_)
  refine aw_iconst 1 (v := 1) (kk := ?_)
  refine ac_PI (st := []) [.ref v3, .int x1, .int 1] (ag_V 137 9 rc_Oc_sourceOf wd_814 cal_Oc_sourceOf wd_815 wd_816) cal_Oc_sourceOf ⟨by decide, by decide⟩ (Nat.le_of_ble_eq_true rfl) (m_Oc_sourceOf g F σ v3 x1 1) (fun v4 => ?_)
  refine aw_istore_n 3 (kk := ?_)
  refine aw_aload_n 0 (kk := ?_)
  refine aw_gA 6 14 68 (hw := wd_299) (kk := fun v5 => ?_)
  refine aw_iload_n 1 (kk := ?_)
  refine aw_iconst 2 (v := 2) (kk := ?_)
  refine ac_PI (st := []) [.ref v5, .int x1, .int 2] (ag_V 137 9 rc_Oc_sourceOf wd_814 cal_Oc_sourceOf wd_815 wd_816) cal_Oc_sourceOf ⟨by decide, by decide⟩ (Nat.le_of_ble_eq_true rfl) (m_Oc_sourceOf g F σ v5 x1 2) (fun v6 => ?_)
  refine aw_istore 4 (kk := ?_)
  refine aw_iload_n 2 (kk := ?_)
  refine aw_iload_n 3 (kk := ?_)
  refine aw_iload 4 (kk := ?_)
  refine ac_PI (st := []) [.int v2, .int v4, .int v6] (ag_S 141 wd_818 cal_Mg_chooseBlob wd_819) cal_Mg_chooseBlob ⟨by decide, by decide⟩ (Nat.le_of_ble_eq_true rfl) (m_Mg_chooseBlob g F σ v2 v4 v6) (fun v7 => ?_)
  refine aw_istore 5 (kk := ?_)
  refine aw_iload 5 (kk := ?_)
  refine aw_if_lt 15 57 (kt := fun _ => ?_) (kf := fun _ => ?_)
  · refine aw_aload_n 0 (kk := ?_)
    refine aw_gA 6 11 57 (hw := wd_296) (kk := fun v8 => ?_)
    refine aw_iload_n 2 (kk := ?_)
    refine aw_iload_n 3 (kk := ?_)
    refine aw_iload 4 (kk := ?_)
    refine ac_V (st := []) [.ref v8, .int v2, .int v4, .int v6] (ag_V 149 7 rc_Tm_mergeTexts wd_825 cal_Tm_mergeTexts wd_826 wd_827) cal_Tm_mergeTexts ⟨by decide, by decide⟩ (Nat.le_of_ble_eq_true rfl) (m_Tm_mergeTexts g F σ v8 v2 v4 v6) (fun σ9 => ?_)
    refine aw_aload_n 0 (kk := ?_)
    refine aw_gA 6 11 57 (hw := wd_296) (kk := fun v10 => ?_)
    refine ac_PI (st := []) [.ref v10] (ag_V 152 7 rc_Tm_hasConflict wd_978 cal_Tm_hasConflict wd_979 wd_980) cal_Tm_hasConflict ⟨by decide, by decide⟩ (Nat.le_of_ble_eq_true rfl) (m_Tm_hasConflict g F σ9 v10) (fun v11 => ?_)
    refine aw_if_eq 11 86 (kt := fun _ => ?_) (kf := fun _ => ?_)
    · exact am_W.drop [true, true, false, false, false, false] (b_Mg_giveText_j86 F x0 x1 σ9)
    · refine aw_aload_n 0 (kk := ?_)
      refine aw_gA 6 14 68 (hw := wd_299) (kk := fun v14 => ?_)
      refine aw_iload_n 1 (kk := ?_)
      refine ac_V (st := []) [.ref v14, .int x1] (ag_V 133 9 rc_Oc_setUnmerged wd_805 cal_Oc_setUnmerged wd_806 wd_807) cal_Oc_setUnmerged ⟨by decide, by decide⟩ (Nat.le_of_ble_eq_true rfl) (m_Oc_setUnmerged g F σ9 v14 x1) (fun σ15 => ?_)
      exact am_W.drop [true, true, false, false, false, false] (b_Mg_giveText_j86 F x0 x1 σ15)
  · refine aw_aload_n 0 (kk := ?_)
    refine aw_gA 6 14 68 (hw := wd_299) (kk := fun v16 => ?_)
    refine aw_iload_n 1 (kk := ?_)
    refine aw_iload 5 (kk := ?_)
    refine ac_V (st := []) [.ref v16, .int x1, .int v7] (ag_V 145 9 rc_Oc_setBlob wd_821 cal_Oc_setBlob wd_822 wd_823) cal_Oc_setBlob ⟨by decide, by decide⟩ (Nat.le_of_ble_eq_true rfl) (m_Oc_setBlob g F σ v16 x1 v7) (fun σ17 => ?_)
    refine aw_iconst 1 (v := 1) (kk := ?_)
    exact aw_zretL (by decide)
def f_Mg_mergeMaps_l43 (F : Nat) (x0 : Nat) (k85 : am_S → Option (Int32 × am_S)) : Nat → Int32 → am_S → Option (Int32 × am_S)
  | 0, _, _ => none
  | n + 1, x1, σ =>
    (am_gI σ 6 12 x0).bind fun v12 =>
    if v12 ≤ x1 then
      k85 σ
    else
      (am_gA σ 6 8 x0).bind fun v13 =>
      (am_lI σ .int v13 x1).bind fun v14 =>
      (am_gA σ 6 9 x0).bind fun v15 =>
      (am_lI σ .int v15 x1).bind fun v16 =>
      (am_gA σ 6 10 x0).bind fun v17 =>
      (am_lI σ .int v17 x1).bind fun v18 =>
      am_b2 (f_Mg_addGroup F σ x0 v14 v16 v18) fun v19 σ20 =>
      if v19 = 0 then
        some ((-3), σ20)
      else
        f_Mg_mergeMaps_l43 F x0 k85 n (x1 + 1) σ20
theorem b_Mg_mergeMaps_l43 {g : am_G} {σ0 : am_S} (F : Nat) (x0 : Nat) (k85 : am_S → Option (Int32 × am_S)) (h85 : ∀ (τ : am_S), am_W g mx_Mg_mergeMaps σ0 85 [some (.ref x0), none, none] [] τ (k85 τ) am_kI) : ∀ (n : Nat) (x1 : Int32) (σ : am_S), am_W g mx_Mg_mergeMaps σ0 43 [some (.ref x0), some (.int x1), none] [] σ (f_Mg_mergeMaps_l43 F x0 k85 n x1 σ) am_kI := by
  intro n
  induction n with
  | zero =>
    intro x1 σ
    rw [f_Mg_mergeMaps_l43]
    exact am_W.none
  | succ n ih =>
    intro x1 σ
    rw [f_Mg_mergeMaps_l43]
    refine aw_iload_n 1 (kk := ?_)
    refine aw_aload_n 0 (kk := ?_)
    refine aw_gI 6 12 81 (hw := wd_297) (kk := fun v12 => ?_)
    refine aw_icmp_ge 37 85 (kt := fun _ => ?_) (kf := fun _ => ?_)
    · exact am_W.drop [true, false, false] (h85 σ)
    · refine aw_aload_n 0 (kk := ?_)
      refine aw_aload_n 0 (kk := ?_)
      refine aw_gA 6 8 18 (hw := wd_293) (kk := fun v13 => ?_)
      refine aw_iload_n 1 (kk := ?_)
      refine aw_lI (kk := fun v14 => ?_)
      refine aw_aload_n 0 (kk := ?_)
      refine aw_gA 6 9 22 (hw := wd_294) (kk := fun v15 => ?_)
      refine aw_iload_n 1 (kk := ?_)
      refine aw_lI (kk := fun v16 => ?_)
      refine aw_aload_n 0 (kk := ?_)
      refine aw_gA 6 10 25 (hw := wd_295) (kk := fun v17 => ?_)
      refine aw_iload_n 1 (kk := ?_)
      refine aw_lI (kk := fun v18 => ?_)
      refine ac_I (st := []) [.ref x0, .int v14, .int v16, .int v18] (ag_V 85 6 rc_Mg_addGroup wd_783 cal_Mg_addGroup wd_785 ws_28) cal_Mg_addGroup ⟨by decide, by decide⟩ (Nat.le_of_ble_eq_true rfl) (m_Mg_addGroup g F σ x0 v14 v16 v18) (fun v19 σ20 => ?_)
      refine aw_if_ne 6 79 (kt := fun _ => ?_) (kf := fun _ => ?_)
      · refine aw_iinc 1 1 (v := 1) (kk := ?_)
        refine aw_goto (-39) 43 (kk := ?_)
        exact am_W.drop [true, true, false] (ih (x1 + 1) σ20)
      · refine aw_bipush (-3) (v := (-3)) (kk := ?_)
        exact aw_iret
def f_Mg_mergeMaps_l95 (F : Nat) (x0 : Nat) (x1 : Int32) (k117 : am_S → Option (Int32 × am_S)) : Nat → Int32 → am_S → Option (Int32 × am_S)
  | 0, _, _ => none
  | n + 1, x2, σ =>
    if x1 ≤ x2 then
      k117 σ
    else
      am_b2 (f_Mg_giveText F σ x0 x2) fun v23 σ24 =>
      if v23 = 0 then
        some ((-3), σ24)
      else
        f_Mg_mergeMaps_l95 F x0 x1 k117 n (x2 + 1) σ24
theorem b_Mg_mergeMaps_l95 {g : am_G} {σ0 : am_S} (F : Nat) (x0 : Nat) (x1 : Int32) (k117 : am_S → Option (Int32 × am_S)) (h117 : ∀ (τ : am_S), am_W g mx_Mg_mergeMaps σ0 117 [some (.ref x0), none, none] [] τ (k117 τ) am_kI) : ∀ (n : Nat) (x2 : Int32) (σ : am_S), am_W g mx_Mg_mergeMaps σ0 95 [some (.ref x0), some (.int x1), some (.int x2)] [] σ (f_Mg_mergeMaps_l95 F x0 x1 k117 n x2 σ) am_kI := by
  intro n
  induction n with
  | zero =>
    intro x2 σ
    rw [f_Mg_mergeMaps_l95]
    exact am_W.none
  | succ n ih =>
    intro x2 σ
    rw [f_Mg_mergeMaps_l95]
    refine aw_iload_n 2 (kk := ?_)
    refine aw_iload_n 1 (kk := ?_)
    refine aw_icmp_ge 20 117 (kt := fun _ => ?_) (kf := fun _ => ?_)
    · exact am_W.drop [true, false, false] (h117 σ)
    · refine aw_aload_n 0 (kk := ?_)
      refine aw_iload_n 2 (kk := ?_)
      refine ac_I (st := []) [.ref x0, .int x2] (ag_V 93 6 rc_Mg_giveText wd_810 cal_Mg_giveText wd_812 ws_30) cal_Mg_giveText ⟨by decide, by decide⟩ (Nat.le_of_ble_eq_true rfl) (m_Mg_giveText g F σ x0 x2) (fun v23 σ24 => ?_)
      refine aw_if_ne 6 111 (kt := fun _ => ?_) (kf := fun _ => ?_)
      · refine aw_iinc 2 1 (v := 1) (kk := ?_)
        refine aw_goto (-19) 95 (kk := ?_)
        exact am_W.drop [true, true, true] (ih (x2 + 1) σ24)
      · refine aw_bipush (-3) (v := (-3)) (kk := ?_)
        exact aw_iret
def f_Mg_mergeMaps_j117 (F : Nat) (x0 : Nat)  (σ : am_S) : Option (Int32 × am_S) :=
  (am_gA σ 6 13 x0).bind fun v25 =>
  (am_gA σ 6 14 x0).bind fun v26 =>
  (am_pA σ 6 13 x0 v26).bind fun σ27 =>
  (am_pA σ27 6 14 x0 v25).bind fun σ28 =>
  (am_gA σ28 6 13 x0).bind fun v29 =>
  (f_Oc_unmergedCount F σ28 v29).bind fun v30 =>
  some (v30, σ28)
theorem b_Mg_mergeMaps_j117 {g : am_G} {σ0 : am_S} (F : Nat) (x0 : Nat)   (σ : am_S) : am_W g mx_Mg_mergeMaps σ0 117 [some (.ref x0), none, none] [] σ (f_Mg_mergeMaps_j117 F x0 σ) am_kI := by
  unfold f_Mg_mergeMaps_j117
  refine aw_aload_n 0 (kk := ?_)
  refine aw_gA 6 13 64 (hw := wd_298) (kk := fun v25 => ?_)
  refine aw_astore_n 2 (kk := ?_)
  refine aw_aload_n 0 (kk := ?_)
  refine aw_aload_n 0 (kk := ?_)
  refine aw_gA 6 14 68 (hw := wd_299) (kk := fun v26 => ?_)
  refine aw_pA 6 13 64 (hw := wd_298) (kk := fun σ27 => ?_)
  refine aw_aload_n 0 (kk := ?_)
  refine aw_aload_n 2 (kk := ?_)
  refine aw_pA 6 14 68 (hw := wd_299) (kk := fun σ28 => ?_)
  refine aw_aload_n 0 (kk := ?_)
  refine aw_gA 6 13 64 (hw := wd_298) (kk := fun v29 => ?_)
  refine ac_PI (st := []) [.ref v29] (ag_V 97 9 rc_Oc_unmergedCount wd_1004 cal_Oc_unmergedCount wd_1005 wd_1006) cal_Oc_unmergedCount ⟨by decide, by decide⟩ (Nat.le_of_ble_eq_true rfl) (m_Oc_unmergedCount g F σ28 v29) (fun v30 => ?_)
  exact aw_iret
def f_Mg_mergeMaps_j85 (F : Nat) (x0 : Nat)  (σ : am_S) : Option (Int32 × am_S) :=
  (am_gA σ 6 14 x0).bind fun v21 =>
  (f_Oc_size F σ v21).bind fun v22 =>
  f_Mg_mergeMaps_l95 F x0 v22 (fun τ => f_Mg_mergeMaps_j117 F x0 τ) F 0 σ
theorem b_Mg_mergeMaps_j85 {g : am_G} {σ0 : am_S} (F : Nat) (x0 : Nat)   (σ : am_S) : am_W g mx_Mg_mergeMaps σ0 85 [some (.ref x0), none, none] [] σ (f_Mg_mergeMaps_j85 F x0 σ) am_kI := by
  unfold f_Mg_mergeMaps_j85
  refine aw_aload_n 0 (kk := ?_)
  refine aw_gA 6 14 68 (hw := wd_299) (kk := fun v21 => ?_)
  refine ac_PI (st := []) [.ref v21] (ag_V 89 9 rc_Oc_size wd_809 cal_Oc_size wd_368 wd_369) cal_Oc_size ⟨by decide, by decide⟩ (Nat.le_of_ble_eq_true rfl) (m_Oc_size g F σ v21) (fun v22 => ?_)
  refine aw_istore_n 1 (kk := ?_)
  refine aw_iconst 0 (v := 0) (kk := ?_)
  refine aw_istore_n 2 (kk := ?_)
  exact am_W.drop [true, true, true] (b_Mg_mergeMaps_l95 F x0 v22 (fun τ => f_Mg_mergeMaps_j117 F x0 τ) (fun τ => am_W.drop [true, false, false] (b_Mg_mergeMaps_j117 F x0 τ)) F 0 σ)
def f_Mg_mergeMaps (F : Nat) (σ : am_S) (x0 : Nat) : Option (Int32 × am_S) :=
  am_ck σ 6 x0 (
  (am_gA σ 6 4 x0).bind fun v1 =>
  (am_gA σ 6 0 x0).bind fun v2 =>
  (am_gA σ 6 1 x0).bind fun v3 =>
  (f_Rn_search F σ v1 v2 v3).bind fun σ4 =>
  (am_gA σ4 6 5 x0).bind fun v5 =>
  (am_gA σ4 6 0 x0).bind fun v6 =>
  (am_gA σ4 6 2 x0).bind fun v7 =>
  (f_Rn_search F σ4 v5 v6 v7).bind fun σ8 =>
  (f_Mg_listGroups F σ8 x0).bind fun σ9 =>
  (am_gA σ9 6 14 x0).bind fun v10 =>
  (f_Oc_clear F σ9 v10).bind fun σ11 =>
  f_Mg_mergeMaps_l43 F x0 (fun τ => f_Mg_mergeMaps_j85 F x0 τ) F 0 σ11)
theorem rc_Mg_mergeMaps {F : Nat} {σ : am_S} {x0 : Nat} (h : (f_Mg_mergeMaps F σ x0).isSome = true) : ∃ fs, σ.2.2 x0 = some (.inr (6, fs)) := am_ck_some h
theorem m_Mg_mergeMaps (g : am_G) (F : Nat) (σ : am_S) (x0 : Nat) : am_Met g mx_Mg_mergeMaps [.ref x0] σ ((f_Mg_mergeMaps F σ x0).bind am_kI) := by
  refine am_Met.of (lv := [some (.ref x0), none, none]) (am_cc rfl am_c0) (Nat.le_of_ble_eq_true rfl) rfl (by decide) ?_
  unfold f_Mg_mergeMaps
  refine am_W.ck ?_
  refine aw_aload_n 0 (kk := ?_)
  refine aw_gA 6 4 47 (hw := wd_289) (kk := fun v1 => ?_)
  refine aw_aload_n 0 (kk := ?_)
  refine aw_gA 6 0 28 (hw := wd_285) (kk := fun v2 => ?_)
  refine aw_aload_n 0 (kk := ?_)
  refine aw_gA 6 1 32 (hw := wd_286) (kk := fun v3 => ?_)
  refine ac_V (st := []) [.ref v1, .ref v2, .ref v3] (ag_V 71 5 rc_Rn_search wd_694 cal_Rn_search wd_695 wd_696) cal_Rn_search ⟨by decide, by decide⟩ (Nat.le_of_ble_eq_true rfl) (m_Rn_search g F σ v1 v2 v3) (fun σ4 => ?_)
  refine aw_aload_n 0 (kk := ?_)
  refine aw_gA 6 5 51 (hw := wd_290) (kk := fun v5 => ?_)
  refine aw_aload_n 0 (kk := ?_)
  refine aw_gA 6 0 28 (hw := wd_285) (kk := fun v6 => ?_)
  refine aw_aload_n 0 (kk := ?_)
  refine aw_gA 6 2 35 (hw := wd_287) (kk := fun v7 => ?_)
  refine ac_V (st := []) [.ref v5, .ref v6, .ref v7] (ag_V 71 5 rc_Rn_search wd_694 cal_Rn_search wd_695 wd_696) cal_Rn_search ⟨by decide, by decide⟩ (Nat.le_of_ble_eq_true rfl) (m_Rn_search g F σ4 v5 v6 v7) (fun σ8 => ?_)
  refine aw_aload_n 0 (kk := ?_)
  refine ac_V (st := []) [.ref x0] (ag_V 75 6 rc_Mg_listGroups wd_758 cal_Mg_listGroups wd_760 ws_26) cal_Mg_listGroups ⟨by decide, by decide⟩ (Nat.le_of_ble_eq_true rfl) (m_Mg_listGroups g F σ8 x0) (fun σ9 => ?_)
  refine aw_aload_n 0 (kk := ?_)
  refine aw_gA 6 14 68 (hw := wd_299) (kk := fun v10 => ?_)
  refine ac_V (st := []) [.ref v10] (ag_V 78 9 rc_Oc_clear wd_775 cal_Oc_clear wd_776 wd_777) cal_Oc_clear ⟨by decide, by decide⟩ (Nat.le_of_ble_eq_true rfl) (m_Oc_clear g F σ9 v10) (fun σ11 => ?_)
  refine aw_iconst 0 (v := 0) (kk := ?_)
  refine aw_istore_n 1 (kk := ?_)
  exact am_W.drop [true, true, false] (b_Mg_mergeMaps_l43 F x0 (fun τ => f_Mg_mergeMaps_j85 F x0 τ) (fun τ => am_W.drop [true, false, false] (b_Mg_mergeMaps_j85 F x0 τ)) F 0 σ11)
def f_Mg_latestOutcomes (F : Nat) (σ : am_S) (x0 : Nat) : Option (Nat) :=
  am_ck σ 6 x0 (
  (am_gA σ 6 13 x0).bind fun v1 =>
  some v1)
theorem rc_Mg_latestOutcomes {F : Nat} {σ : am_S} {x0 : Nat} (h : (f_Mg_latestOutcomes F σ x0).isSome = true) : ∃ fs, σ.2.2 x0 = some (.inr (6, fs)) := am_ck_some h
theorem m_Mg_latestOutcomes (g : am_G) (F : Nat) (σ : am_S) (x0 : Nat) : am_Met g mx_Mg_latestOutcomes [.ref x0] σ ((f_Mg_latestOutcomes F σ x0).bind (am_kPA σ)) := by
  refine am_Met.of (lv := [some (.ref x0)]) (am_cc rfl am_c0) (Nat.le_of_ble_eq_true rfl) rfl (by decide) ?_
  unfold f_Mg_latestOutcomes
  refine am_W.ck ?_
  refine aw_aload_n 0 (kk := ?_)
  refine aw_gA 6 13 64 (hw := wd_298) (kk := fun v1 => ?_)
  exact aw_aretP
