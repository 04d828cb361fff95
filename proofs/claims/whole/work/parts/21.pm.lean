/-! ===== printed by wip/gen ===== -/
def f_Pm_init (F : Nat) (σ : am_S) (x0 : Nat) : Option (am_S) :=
  am_ck σ 4 x0 (
  am_b2 (am_na σ .byte 8192) fun a1 σ2 =>
  (am_pA σ2 4 0 x0 a1).bind fun σ3 =>
  am_b2 (am_na σ3 .int 401) fun a4 σ5 =>
  (am_pA σ5 4 1 x0 a4).bind fun σ6 =>
  am_b2 (am_na σ6 .int 400) fun a7 σ8 =>
  (am_pA σ8 4 2 x0 a7).bind fun σ9 =>
  some σ9)
theorem rc_Pm_init {F : Nat} {σ : am_S} {x0 : Nat} (h : (f_Pm_init F σ x0).isSome = true) : ∃ fs, σ.2.2 x0 = some (.inr (4, fs)) := am_ck_some h
theorem m_Pm_init (g : am_G) (F : Nat) (σ : am_S) (x0 : Nat) : am_Met g mx_Pm_init [.ref x0] σ ((f_Pm_init F σ x0).bind am_kV) := by
  refine am_Met.of (lv := [some (.ref x0)]) (am_cc rfl am_c0) (Nat.le_of_ble_eq_true rfl) rfl (by decide) ?_
  unfold f_Pm_init
  refine am_W.ck ?_
  refine aw_aload_n 0 (kk := ?_)
  refine aw_obj 3 (hw := wd_128) (hw2 := wd_33) (hw3 := wd_34) (hr := Nat.le_of_ble_eq_true rfl) (kk := ?_)
  refine aw_aload_n 0 (kk := ?_)
  refine aw_sipush 8192 (v := 8192) (kk := ?_)
  refine aw_na2 .byte (hw := wd_54) (kk := fun a1 σ2 => ?_)
  refine aw_pAF 4 0 9 (hw := wd_129) (kk := fun σ3 => ?_)
  refine aw_aload_n 0 (kk := ?_)
  refine aw_sipush 401 (v := 401) (kk := ?_)
  refine aw_na2 .int (hw := wd_55) (kk := fun a4 σ5 => ?_)
  refine aw_pAF 4 1 15 (hw := wd_130) (kk := fun σ6 => ?_)
  refine aw_aload_n 0 (kk := ?_)
  refine aw_sipush 400 (v := 400) (kk := ?_)
  refine aw_na2 .int (hw := wd_55) (kk := fun a7 σ8 => ?_)
  refine aw_pAF 4 2 19 (hw := wd_131) (kk := fun σ9 => ?_)
  exact aw_vret
def f_Pm_lengthOf (F : Nat) (σ : am_S) (x0 : Nat) (x1 : Int32) : Option (Int32) :=
  am_ck σ 4 x0 (
  (am_gA σ 4 1 x0).bind fun v1 =>
  (am_lI σ .int v1 (x1 + 1)).bind fun v2 =>
  (am_gA σ 4 1 x0).bind fun v3 =>
  (am_lI σ .int v3 x1).bind fun v4 =>
  some (v2 - v4))
theorem rc_Pm_lengthOf {F : Nat} {σ : am_S} {x0 : Nat} {x1 : Int32} (h : (f_Pm_lengthOf F σ x0 x1).isSome = true) : ∃ fs, σ.2.2 x0 = some (.inr (4, fs)) := am_ck_some h
theorem m_Pm_lengthOf (g : am_G) (F : Nat) (σ : am_S) (x0 : Nat) (x1 : Int32) : am_Met g mx_Pm_lengthOf [.ref x0, .int x1] σ ((f_Pm_lengthOf F σ x0 x1).bind (am_kPI σ)) := by
  refine am_Met.of (lv := [some (.ref x0), some (.int x1)]) (am_cc rfl (am_cc rfl am_c0)) (Nat.le_of_ble_eq_true rfl) rfl (by decide) ?_
  unfold f_Pm_lengthOf
  refine am_W.ck ?_
  refine aw_aload_n 0 (kk := ?_)
  refine aw_gA 4 1 15 (hw := wd_130) (kk := fun v1 => ?_)
  refine aw_iload_n 1 (kk := ?_)
  refine aw_iconst 1 (v := 1) (kk := ?_)
  refine aw_iadd (kk := ?_)
  refine aw_lI (kk := fun v2 => ?_)
  refine aw_aload_n 0 (kk := ?_)
  refine aw_gA 4 1 15 (hw := wd_130) (kk := fun v3 => ?_)
  refine aw_iload_n 1 (kk := ?_)
  refine aw_lI (kk := fun v4 => ?_)
  refine aw_isub (kk := ?_)
  exact aw_iretP
def f_Pm_letterAt (F : Nat) (σ : am_S) (x0 : Nat) (x1 : Int32) (x2 : Int32) : Option (Int32) :=
  am_ck σ 4 x0 (
  (am_gA σ 4 0 x0).bind fun v1 =>
  (am_gA σ 4 1 x0).bind fun v2 =>
  (am_lI σ .int v2 x1).bind fun v3 =>
  (am_lI σ .byte v1 (v3 + x2)).bind fun v4 =>
  some (v4 &&& 255))
theorem rc_Pm_letterAt {F : Nat} {σ : am_S} {x0 : Nat} {x1 : Int32} {x2 : Int32} (h : (f_Pm_letterAt F σ x0 x1 x2).isSome = true) : ∃ fs, σ.2.2 x0 = some (.inr (4, fs)) := am_ck_some h
theorem m_Pm_letterAt (g : am_G) (F : Nat) (σ : am_S) (x0 : Nat) (x1 : Int32) (x2 : Int32) : am_Met g mx_Pm_letterAt [.ref x0, .int x1, .int x2] σ ((f_Pm_letterAt F σ x0 x1 x2).bind (am_kPI σ)) := by
  refine am_Met.of (lv := [some (.ref x0), some (.int x1), some (.int x2)]) (am_cc rfl (am_cc rfl (am_cc rfl am_c0))) (Nat.le_of_ble_eq_true rfl) rfl (by decide) ?_
  unfold f_Pm_letterAt
  refine am_W.ck ?_
  refine aw_aload_n 0 (kk := ?_)
  refine aw_gA 4 0 9 (hw := wd_129) (kk := fun v1 => ?_)
  refine aw_aload_n 0 (kk := ?_)
  refine aw_gA 4 1 15 (hw := wd_130) (kk := fun v2 => ?_)
  refine aw_iload_n 1 (kk := ?_)
  refine aw_lI (kk := fun v3 => ?_)
  refine aw_iload_n 2 (kk := ?_)
  refine aw_iadd (kk := ?_)
  refine aw_lB (kk := fun v4 => ?_)
  refine aw_sipush 255 (v := 255) (kk := ?_)
  refine aw_iand (kk := ?_)
  exact aw_iretP
def f_Pm_compareAt (F : Nat) (σ : am_S) (x0 : Nat) (x1 : Int32) (x2 : Nat) (x3 : Int32) (x4 : Int32) : Option (Int32) :=
  am_ck σ 4 x0 (
  (f_Pm_lengthOf F σ x0 x1).bind fun v1 =>
  (am_gA σ 4 0 x0).bind fun v2 =>
  (am_gA σ 4 1 x0).bind fun v3 =>
  (am_lI σ .int v3 x1).bind fun v4 =>
  (f_Rw_commonBeginning F σ v2 v4 x2 x3 (am_min v1 x4)).bind fun v5 =>
  if v5 = (am_min v1 x4) then
    some (v1 - x4)
  else
    (f_Pm_letterAt F σ x0 x1 v5).bind fun v6 =>
    (am_lI σ .byte x2 (x3 + v5)).bind fun v7 =>
    some (v6 - (v7 &&& 255)))
theorem rc_Pm_compareAt {F : Nat} {σ : am_S} {x0 : Nat} {x1 : Int32} {x2 : Nat} {x3 : Int32} {x4 : Int32} (h : (f_Pm_compareAt F σ x0 x1 x2 x3 x4).isSome = true) : ∃ fs, σ.2.2 x0 = some (.inr (4, fs)) := am_ck_some h
theorem m_Pm_compareAt (g : am_G) (F : Nat) (σ : am_S) (x0 : Nat) (x1 : Int32) (x2 : Nat) (x3 : Int32) (x4 : Int32) : am_Met g mx_Pm_compareAt [.ref x0, .int x1, .ref x2, .int x3, .int x4] σ ((f_Pm_compareAt F σ x0 x1 x2 x3 x4).bind (am_kPI σ)) := by
  refine am_Met.of (lv := [some (.ref x0), some (.int x1), some (.ref x2), some (.int x3), some (.int x4), none, none, none]) (am_cc rfl (am_cc rfl (am_cc rfl (am_cc rfl (am_cc rfl am_c0))))) (Nat.le_of_ble_eq_true rfl) rfl (by decide) ?_
  unfold f_Pm_compareAt
  refine am_W.ck ?_
  refine aw_aload_n 0 (kk := ?_)
  refine aw_iload_n 1 (kk := ?_)
  refine ac_PI (st := []) [.ref x0, .int x1] (ag_V 34 4 rc_Pm_lengthOf wd_557 cal_Pm_lengthOf wd_558 wd_559) cal_Pm_lengthOf ⟨by decide, by decide⟩ (Nat.le_of_ble_eq_true rfl) (m_Pm_lengthOf g F σ x0 x1) (fun v1 => ?_)
  refine aw_istore 5 (kk := ?_)
  refine aw_iload 5 (kk := ?_)
  refine aw_iload 4 (kk := ?_)
  refine aw_min 62 (hw := wd_561) (hw2 := wd_562) (hw3 := wd_21) (hw4 := wd_563) (hr := Nat.le_of_ble_eq_true rfl) (kk := ?_)
  refine aw_istore 6 (kk := ?_)
  refine aw_aload_n 0 (kk := ?_)
  refine aw_gA 4 0 9 (hw := wd_129) (kk := fun v2 => ?_)
  refine aw_aload_n 0 (kk := ?_)
  refine aw_gA 4 1 15 (hw := wd_130) (kk := fun v3 => ?_)
  refine aw_iload_n 1 (kk := ?_)
  refine aw_lI (kk := fun v4 => ?_)
  refine aw_aload_n 2 (kk := ?_)
  refine aw_iload_n 3 (kk := ?_)
  refine aw_iload 6 (kk := ?_)
  refine ac_PI (st := []) [.ref v2, .int v4, .ref x2, .int x3, .int (am_min v1 x4)] (ag_S 68 wd_564 cal_Rw_commonBeginning wd_565) cal_Rw_commonBeginning ⟨by decide, by decide⟩ (Nat.le_of_ble_eq_true rfl) (m_Rw_commonBeginning g F σ v2 v4 x2 x3 (am_min v1 x4)) (fun v5 => ?_)
  refine aw_istore 7 (kk := ?_)
  refine aw_iload 7 (kk := ?_)
  refine aw_iload 6 (kk := ?_)
  refine aw_icmp_ne 9 48 (kt := fun _ => ?_) (kf := fun _ => ?_)
  · refine aw_aload_n 0 (kk := ?_)
    refine aw_iload_n 1 (kk := ?_)
    refine aw_iload 7 (kk := ?_)
    refine ac_PI (st := []) [.ref x0, .int x1, .int v5] (ag_V 74 4 rc_Pm_letterAt wd_567 cal_Pm_letterAt wd_568 wd_569) cal_Pm_letterAt ⟨by decide, by decide⟩ (Nat.le_of_ble_eq_true rfl) (m_Pm_letterAt g F σ x0 x1 v5) (fun v6 => ?_)
    refine aw_aload_n 2 (kk := ?_)
    refine aw_iload_n 3 (kk := ?_)
    refine aw_iload 7 (kk := ?_)
    refine aw_iadd (kk := ?_)
    refine aw_lB (kk := fun v7 => ?_)
    refine aw_sipush 255 (v := 255) (kk := ?_)
    refine aw_iand (kk := ?_)
    refine aw_isub (kk := ?_)
    exact aw_iretP
  · refine aw_iload 5 (kk := ?_)
    refine aw_iload 4 (kk := ?_)
    refine aw_isub (kk := ?_)
    exact aw_iretP
def f_Pm_placeFor_l9 (σ : am_S) (F : Nat) (x0 : Nat) (x1 : Nat) (x2 : Int32) (x3 : Int32)  : Nat → Int32 → Int32 → Option (Int32)
  | 0, _, _ => none
  | n + 1, x4, x5 =>
    if x5 ≤ x4 then
      some x4
    else
      (f_Pm_compareAt F σ x0 ((x4 + x5) / 2) x1 x2 x3).bind fun v2 =>
      if 0 ≤ v2 then
        f_Pm_placeFor_l9 σ F x0 x1 x2 x3 n x4 ((x4 + x5) / 2)
      else
        f_Pm_placeFor_l9 σ F x0 x1 x2 x3 n (((x4 + x5) / 2) + 1) x5
theorem b_Pm_placeFor_l9 {g : am_G} {σ0 σ : am_S} (F : Nat) (x0 : Nat) (x1 : Nat) (x2 : Int32) (x3 : Int32)   : ∀ (n : Nat) (x4 : Int32) (x5 : Int32), am_W g mx_Pm_placeFor σ0 9 [some (.ref x0), some (.ref x1), some (.int x2), some (.int x3), some (.int x4), some (.int x5), none] [] σ (f_Pm_placeFor_l9 σ F x0 x1 x2 x3 n x4 x5) (am_kPI σ) := by
  intro n
  induction n with
  | zero =>
    intro x4 x5
    rw [f_Pm_placeFor_l9]
    exact am_W.none
  | succ n ih =>
    intro x4 x5
    rw [f_Pm_placeFor_l9]
    refine aw_iload 4 (kk := ?_)
    refine aw_iload 5 (kk := ?_)
    refine aw_icmp_ge 40 53 (kt := fun _ => ?_) (kf := fun _ => ?_)
    · refine aw_iload 4 (kk := ?_)
      exact aw_iretP
    · refine aw_iload 4 (kk := ?_)
      refine aw_iload 5 (kk := ?_)
      refine aw_iadd (kk := ?_)
      refine aw_iconst 2 (v := 2) (kk := ?_)
      refine aw_idiv (hy := by decide) (kk := ?_)
      refine aw_istore 6 (kk := ?_)
      refine aw_aload_n 0 (kk := ?_)
      refine aw_iload 6 (kk := ?_)
      refine aw_aload_n 1 (kk := ?_)
      refine aw_iload_n 2 (kk := ?_)
      refine aw_iload_n 3 (kk := ?_)
      refine ac_PI (st := []) [.ref x0, .int ((x4 + x5) / 2), .ref x1, .int x2, .int x3] (ag_V 41 4 rc_Pm_compareAt wd_553 cal_Pm_compareAt wd_555 ws_6) cal_Pm_compareAt ⟨by decide, by decide⟩ (Nat.le_of_ble_eq_true rfl) (m_Pm_compareAt g F σ x0 ((x4 + x5) / 2) x1 x2 x3) (fun v2 => ?_)
      refine aw_if_ge 12 46 (kt := fun _ => ?_) (kf := fun _ => ?_)
      · refine aw_iload 6 (kk := ?_)
        refine aw_istore 5 (kk := ?_)
        refine aw_goto (-41) 9 (kk := ?_)
        exact am_W.drop [true, true, true, true, true, true, false] (ih x4 ((x4 + x5) / 2))
      · refine aw_iload 6 (kk := ?_)
        refine aw_iconst 1 (v := 1) (kk := ?_)
        refine aw_iadd (kk := ?_)
        refine aw_istore 4 (kk := ?_)
        refine aw_goto 7 50 (kk := ?_)
        refine aw_goto (-41) 9 (kk := ?_)
        exact am_W.drop [true, true, true, true, true, true, false] (ih (((x4 + x5) / 2) + 1) x5)
def f_Pm_placeFor (F : Nat) (σ : am_S) (x0 : Nat) (x1 : Nat) (x2 : Int32) (x3 : Int32) : Option (Int32) :=
  am_ck σ 4 x0 (
  (am_gI σ 4 3 x0).bind fun v1 =>
  f_Pm_placeFor_l9 σ F x0 x1 x2 x3 F 0 v1)
theorem rc_Pm_placeFor {F : Nat} {σ : am_S} {x0 : Nat} {x1 : Nat} {x2 : Int32} {x3 : Int32} (h : (f_Pm_placeFor F σ x0 x1 x2 x3).isSome = true) : ∃ fs, σ.2.2 x0 = some (.inr (4, fs)) := am_ck_some h
theorem m_Pm_placeFor (g : am_G) (F : Nat) (σ : am_S) (x0 : Nat) (x1 : Nat) (x2 : Int32) (x3 : Int32) : am_Met g mx_Pm_placeFor [.ref x0, .ref x1, .int x2, .int x3] σ ((f_Pm_placeFor F σ x0 x1 x2 x3).bind (am_kPI σ)) := by
  refine am_Met.of (lv := [some (.ref x0), some (.ref x1), some (.int x2), some (.int x3), none, none, none]) (am_cc rfl (am_cc rfl (am_cc rfl (am_cc rfl am_c0)))) (Nat.le_of_ble_eq_true rfl) rfl (by decide) ?_
  unfold f_Pm_placeFor
  refine am_W.ck ?_
  refine aw_iconst 0 (v := 0) (kk := ?_)
  refine aw_istore 4 (kk := ?_)
  refine aw_aload_n 0 (kk := ?_)
  refine aw_gI 4 3 22 (hw := wd_132) (kk := fun v1 => ?_)
  refine aw_istore 5 (kk := ?_)
  exact am_W.drop [true, true, true, true, true, true, false] (b_Pm_placeFor_l9 F x0 x1 x2 x3 F 0 v1)
def f_Pm_isAt (F : Nat) (σ : am_S) (x0 : Nat) (x1 : Int32) (x2 : Nat) (x3 : Int32) (x4 : Int32) : Option (Int32) :=
  am_ck σ 4 x0 (
  (am_gI σ 4 3 x0).bind fun v1 =>
  if v1 ≤ x1 then
    some 0
  else
    (f_Pm_compareAt F σ x0 x1 x2 x3 x4).bind fun v2 =>
    if v2 = 0 then
      some 1
    else
      some 0)
theorem rc_Pm_isAt {F : Nat} {σ : am_S} {x0 : Nat} {x1 : Int32} {x2 : Nat} {x3 : Int32} {x4 : Int32} (h : (f_Pm_isAt F σ x0 x1 x2 x3 x4).isSome = true) : ∃ fs, σ.2.2 x0 = some (.inr (4, fs)) := am_ck_some h
theorem m_Pm_isAt (g : am_G) (F : Nat) (σ : am_S) (x0 : Nat) (x1 : Int32) (x2 : Nat) (x3 : Int32) (x4 : Int32) : am_Met g mx_Pm_isAt [.ref x0, .int x1, .ref x2, .int x3, .int x4] σ ((f_Pm_isAt F σ x0 x1 x2 x3 x4).bind (am_kPI σ)) := by
  refine am_Met.of (lv := [some (.ref x0), some (.int x1), some (.ref x2), some (.int x3), some (.int x4)]) (am_cc rfl (am_cc rfl (am_cc rfl (am_cc rfl (am_cc rfl am_c0))))) (Nat.le_of_ble_eq_true rfl) rfl (by decide) ?_
  unfold f_Pm_isAt
  refine am_W.ck ?_
  refine aw_iload_n 1 (kk := ?_)
  refine aw_aload_n 0 (kk := ?_)
  refine aw_gI 4 3 22 (hw := wd_132) (kk := fun v1 => ?_)
  refine aw_icmp_ge 19 24 (kt := fun _ => ?_) (kf := fun _ => ?_)
  · refine aw_iconst 0 (v := 0) (kk := ?_)
    exact aw_zretPL (by decide)
  · refine aw_aload_n 0 (kk := ?_)
    refine aw_iload_n 1 (kk := ?_)
    refine aw_aload_n 2 (kk := ?_)
    refine aw_iload_n 3 (kk := ?_)
    refine aw_iload 4 (kk := ?_)
    refine ac_PI (st := []) [.ref x0, .int x1, .ref x2, .int x3, .int x4] (ag_V 41 4 rc_Pm_compareAt wd_553 cal_Pm_compareAt wd_555 ws_6) cal_Pm_compareAt ⟨by decide, by decide⟩ (Nat.le_of_ble_eq_true rfl) (m_Pm_compareAt g F σ x0 x1 x2 x3 x4) (fun v2 => ?_)
    refine aw_if_ne 7 24 (kt := fun _ => ?_) (kf := fun _ => ?_)
    · refine aw_iconst 0 (v := 0) (kk := ?_)
      exact aw_zretPL (by decide)
    · refine aw_iconst 1 (v := 1) (kk := ?_)
      refine aw_goto 4 25 (kk := ?_)
      exact aw_zretPL (by decide)
def f_Pm_find (F : Nat) (σ : am_S) (x0 : Nat) (x1 : Nat) (x2 : Int32) (x3 : Int32) : Option (Int32) :=
  am_ck σ 4 x0 (
  (f_Pm_placeFor F σ x0 x1 x2 x3).bind fun v1 =>
  (f_Pm_isAt F σ x0 v1 x1 x2 x3).bind fun v2 =>
  if v2 = 0 then
    some (-1)
  else
    some v1)
theorem rc_Pm_find {F : Nat} {σ : am_S} {x0 : Nat} {x1 : Nat} {x2 : Int32} {x3 : Int32} (h : (f_Pm_find F σ x0 x1 x2 x3).isSome = true) : ∃ fs, σ.2.2 x0 = some (.inr (4, fs)) := am_ck_some h
theorem m_Pm_find (g : am_G) (F : Nat) (σ : am_S) (x0 : Nat) (x1 : Nat) (x2 : Int32) (x3 : Int32) : am_Met g mx_Pm_find [.ref x0, .ref x1, .int x2, .int x3] σ ((f_Pm_find F σ x0 x1 x2 x3).bind (am_kPI σ)) := by
  refine am_Met.of (lv := [some (.ref x0), some (.ref x1), some (.int x2), some (.int x3), none]) (am_cc rfl (am_cc rfl (am_cc rfl (am_cc rfl am_c0)))) (Nat.le_of_ble_eq_true rfl) rfl (by decide) ?_
  unfold f_Pm_find
  refine am_W.ck ?_
  refine aw_aload_n 0 (kk := ?_)
  refine aw_aload_n 1 (kk := ?_)
  refine aw_iload_n 2 (kk := ?_)
  refine aw_iload_n 3 (kk := ?_)
  refine ac_PI (st := []) [.ref x0, .ref x1, .int x2, .int x3] (ag_V 26 4 rc_Pm_placeFor wd_549 cal_Pm_placeFor wd_551 ws_5) cal_Pm_placeFor ⟨by decide, by decide⟩ (Nat.le_of_ble_eq_true rfl) (m_Pm_placeFor g F σ x0 x1 x2 x3) (fun v1 => ?_)
  refine aw_istore 4 (kk := ?_)
  refine aw_aload_n 0 (kk := ?_)
  refine aw_iload 4 (kk := ?_)
  refine aw_aload_n 1 (kk := ?_)
  refine aw_iload_n 2 (kk := ?_)
  refine aw_iload_n 3 (kk := ?_)
  refine ac_PI (st := []) [.ref x0, .int v1, .ref x1, .int x2, .int x3] (ag_V 30 4 rc_Pm_isAt wd_571 cal_Pm_isAt wd_573 ws_7) cal_Pm_isAt ⟨by decide, by decide⟩ (Nat.le_of_ble_eq_true rfl) (m_Pm_isAt g F σ x0 v1 x1 x2 x3) (fun v2 => ?_)
  refine aw_if_eq 8 26 (kt := fun _ => ?_) (kf := fun _ => ?_)
  · refine aw_iconst (-1) (v := (-1)) (kk := ?_)
    exact aw_iretP
  · refine aw_iload 4 (kk := ?_)
    refine aw_goto 4 27 (kk := ?_)
    exact aw_iretP
def f_Pm_isBeneathOrAbove (F : Nat) (σ : am_S) (x0 : Nat) (x1 : Int32) (x2 : Nat) (x3 : Int32) (x4 : Int32) : Option (Int32) :=
  am_ck σ 4 x0 (
  (f_Pm_lengthOf F σ x0 x1).bind fun v1 =>
  if v1 = x4 then
    some 0
  else
    (am_gA σ 4 0 x0).bind fun v2 =>
    (am_gA σ 4 1 x0).bind fun v3 =>
    (am_lI σ .int v3 x1).bind fun v4 =>
    (f_Rw_commonBeginning F σ v2 v4 x2 x3 (am_min v1 x4)).bind fun v5 =>
    if (am_min v1 x4) ≤ v5 then
      if v1 ≤ x4 then
        (am_lI σ .byte x2 (x3 + v1)).bind fun v6 =>
        if v6 = 47 then
          some 1
        else
          some 0
      else
        (f_Pm_letterAt F σ x0 x1 x4).bind fun v7 =>
        if v7 = 47 then
          some 1
        else
          some 0
    else
      some 0)
theorem rc_Pm_isBeneathOrAbove {F : Nat} {σ : am_S} {x0 : Nat} {x1 : Int32} {x2 : Nat} {x3 : Int32} {x4 : Int32} (h : (f_Pm_isBeneathOrAbove F σ x0 x1 x2 x3 x4).isSome = true) : ∃ fs, σ.2.2 x0 = some (.inr (4, fs)) := am_ck_some h
theorem m_Pm_isBeneathOrAbove (g : am_G) (F : Nat) (σ : am_S) (x0 : Nat) (x1 : Int32) (x2 : Nat) (x3 : Int32) (x4 : Int32) : am_Met g mx_Pm_isBeneathOrAbove [.ref x0, .int x1, .ref x2, .int x3, .int x4] σ ((f_Pm_isBeneathOrAbove F σ x0 x1 x2 x3 x4).bind (am_kPI σ)) := by
  refine am_Met.of (lv := [some (.ref x0), some (.int x1), some (.ref x2), some (.int x3), some (.int x4), none, none]) (am_cc rfl (am_cc rfl (am_cc rfl (am_cc rfl (am_cc rfl am_c0))))) (Nat.le_of_ble_eq_true rfl) rfl (by decide) ?_
  unfold f_Pm_isBeneathOrAbove
  refine am_W.ck ?_
  refine aw_aload_n 0 (kk := ?_)
  refine aw_iload_n 1 (kk := ?_)
  refine ac_PI (st := []) [.ref x0, .int x1] (ag_V 34 4 rc_Pm_lengthOf wd_557 cal_Pm_lengthOf wd_558 wd_559) cal_Pm_lengthOf ⟨by decide, by decide⟩ (Nat.le_of_ble_eq_true rfl) (m_Pm_lengthOf g F σ x0 x1) (fun v1 => ?_)
  refine aw_istore 5 (kk := ?_)
  refine aw_iload 5 (kk := ?_)
  refine aw_iload 4 (kk := ?_)
  refine aw_min 62 (hw := wd_561) (hw2 := wd_562) (hw3 := wd_21) (hw4 := wd_563) (hr := Nat.le_of_ble_eq_true rfl) (kk := ?_)
  refine aw_istore 6 (kk := ?_)
  refine aw_iload 5 (kk := ?_)
  refine aw_iload 4 (kk := ?_)
  refine aw_icmp_eq 25 45 (kt := fun _ => ?_) (kf := fun _ => ?_)
  · refine aw_iconst 0 (v := 0) (kk := ?_)
    exact aw_zretPL (by decide)
  · refine aw_aload_n 0 (kk := ?_)
    refine aw_gA 4 0 9 (hw := wd_129) (kk := fun v2 => ?_)
    refine aw_aload_n 0 (kk := ?_)
    refine aw_gA 4 1 15 (hw := wd_130) (kk := fun v3 => ?_)
    refine aw_iload_n 1 (kk := ?_)
    refine aw_lI (kk := fun v4 => ?_)
    refine aw_aload_n 2 (kk := ?_)
    refine aw_iload_n 3 (kk := ?_)
    refine aw_iload 6 (kk := ?_)
    refine ac_PI (st := []) [.ref v2, .int v4, .ref x2, .int x3, .int (am_min v1 x4)] (ag_S 68 wd_564 cal_Rw_commonBeginning wd_565) cal_Rw_commonBeginning ⟨by decide, by decide⟩ (Nat.le_of_ble_eq_true rfl) (m_Rw_commonBeginning g F σ v2 v4 x2 x3 (am_min v1 x4)) (fun v5 => ?_)
    refine aw_iload 6 (kk := ?_)
    refine aw_icmp_ge 5 47 (kt := fun _ => ?_) (kf := fun _ => ?_)
    · refine aw_iload 5 (kk := ?_)
      refine aw_iload 4 (kk := ?_)
      refine aw_icmp_le 23 74 (kt := fun _ => ?_) (kf := fun _ => ?_)
      · refine aw_aload_n 2 (kk := ?_)
        refine aw_iload_n 3 (kk := ?_)
        refine aw_iload 5 (kk := ?_)
        refine aw_iadd (kk := ?_)
        refine aw_lB (kk := fun v6 => ?_)
        refine aw_bipush 47 (v := 47) (kk := ?_)
        refine aw_icmp_ne 7 89 (kt := fun _ => ?_) (kf := fun _ => ?_)
        · refine aw_iconst 0 (v := 0) (kk := ?_)
          exact aw_zretPL (by decide)
        · refine aw_iconst 1 (v := 1) (kk := ?_)
          refine aw_goto 4 90 (kk := ?_)
          exact aw_zretPL (by decide)
      · refine aw_aload_n 0 (kk := ?_)
        refine aw_iload_n 1 (kk := ?_)
        refine aw_iload 4 (kk := ?_)
        refine ac_PI (st := []) [.ref x0, .int x1, .int x4] (ag_V 74 4 rc_Pm_letterAt wd_567 cal_Pm_letterAt wd_568 wd_569) cal_Pm_letterAt ⟨by decide, by decide⟩ (Nat.le_of_ble_eq_true rfl) (m_Pm_letterAt g F σ x0 x1 x4) (fun v7 => ?_)
        refine aw_bipush 47 (v := 47) (kk := ?_)
        refine aw_icmp_ne 7 70 (kt := fun _ => ?_) (kf := fun _ => ?_)
        · refine aw_iconst 0 (v := 0) (kk := ?_)
          refine aw_goto 19 90 (kk := ?_)
          exact aw_zretPL (by decide)
        · refine aw_iconst 1 (v := 1) (kk := ?_)
          refine aw_goto 23 90 (kk := ?_)
          exact aw_zretPL (by decide)
    · refine aw_iconst 0 (v := 0) (kk := ?_)
      exact aw_zretPL (by decide)
def f_Pm_hasRoomFor_l32 (σ : am_S) (F : Nat) (x0 : Nat) (x1 : Nat) (x2 : Int32) (x3 : Int32)  : Nat → Int32 → Option (Int32)
  | 0, _ => none
  | n + 1, x4 =>
    (am_gI σ 4 3 x0).bind fun v5 =>
    if v5 ≤ x4 then
      some 1
    else
      (f_Pm_isBeneathOrAbove F σ x0 x4 x1 x2 x3).bind fun v6 =>
      if v6 = 0 then
        f_Pm_hasRoomFor_l32 σ F x0 x1 x2 x3 n (x4 + 1)
      else
        some 0
theorem b_Pm_hasRoomFor_l32 {g : am_G} {σ0 σ : am_S} (F : Nat) (x0 : Nat) (x1 : Nat) (x2 : Int32) (x3 : Int32)   : ∀ (n : Nat) (x4 : Int32), am_W g mx_Pm_hasRoomFor σ0 32 [some (.ref x0), some (.ref x1), some (.int x2), some (.int x3), some (.int x4)] [] σ (f_Pm_hasRoomFor_l32 σ F x0 x1 x2 x3 n x4) (am_kPI σ) := by
  intro n
  induction n with
  | zero =>
    intro x4
    rw [f_Pm_hasRoomFor_l32]
    exact am_W.none
  | succ n ih =>
    intro x4
    rw [f_Pm_hasRoomFor_l32]
    refine aw_iload 4 (kk := ?_)
    refine aw_aload_n 0 (kk := ?_)
    refine aw_gI 4 3 22 (hw := wd_132) (kk := fun v5 => ?_)
    refine aw_icmp_ge 23 61 (kt := fun _ => ?_) (kf := fun _ => ?_)
    · refine aw_iconst 1 (v := 1) (kk := ?_)
      exact aw_zretPL (by decide)
    · refine aw_aload_n 0 (kk := ?_)
      refine aw_iload 4 (kk := ?_)
      refine aw_aload_n 1 (kk := ?_)
      refine aw_iload_n 2 (kk := ?_)
      refine aw_iload_n 3 (kk := ?_)
      refine ac_PI (st := []) [.ref x0, .int x4, .ref x1, .int x2, .int x3] (ag_V 59 4 rc_Pm_isBeneathOrAbove wd_579 cal_Pm_isBeneathOrAbove wd_581 ws_9) cal_Pm_isBeneathOrAbove ⟨by decide, by decide⟩ (Nat.le_of_ble_eq_true rfl) (m_Pm_isBeneathOrAbove g F σ x0 x4 x1 x2 x3) (fun v6 => ?_)
      refine aw_if_eq 5 55 (kt := fun _ => ?_) (kf := fun _ => ?_)
      · refine aw_iinc 4 1 (v := 1) (kk := ?_)
        refine aw_goto (-26) 32 (kk := ?_)
        exact am_W.drop [true, true, true, true, true] (ih (x4 + 1))
      · refine aw_iconst 0 (v := 0) (kk := ?_)
        exact aw_zretPL (by decide)
def f_Pm_hasRoomFor (F : Nat) (σ : am_S) (x0 : Nat) (x1 : Nat) (x2 : Int32) (x3 : Int32) : Option (Int32) :=
  am_ck σ 4 x0 (
  (am_gI σ 4 3 x0).bind fun v1 =>
  if 400 ≤ v1 then
    some 0
  else
    (am_gA σ 4 1 x0).bind fun v2 =>
    (am_gI σ 4 3 x0).bind fun v3 =>
    (am_lI σ .int v2 v3).bind fun v4 =>
    if (v4 + x3) ≤ 8192 then
      f_Pm_hasRoomFor_l32 σ F x0 x1 x2 x3 F 0
    else
      some 0)
theorem rc_Pm_hasRoomFor {F : Nat} {σ : am_S} {x0 : Nat} {x1 : Nat} {x2 : Int32} {x3 : Int32} (h : (f_Pm_hasRoomFor F σ x0 x1 x2 x3).isSome = true) : ∃ fs, σ.2.2 x0 = some (.inr (4, fs)) := am_ck_some h
theorem m_Pm_hasRoomFor (g : am_G) (F : Nat) (σ : am_S) (x0 : Nat) (x1 : Nat) (x2 : Int32) (x3 : Int32) : am_Met g mx_Pm_hasRoomFor [.ref x0, .ref x1, .int x2, .int x3] σ ((f_Pm_hasRoomFor F σ x0 x1 x2 x3).bind (am_kPI σ)) := by
  refine am_Met.of (lv := [some (.ref x0), some (.ref x1), some (.int x2), some (.int x3), none]) (am_cc rfl (am_cc rfl (am_cc rfl (am_cc rfl am_c0)))) (Nat.le_of_ble_eq_true rfl) rfl (by decide) ?_
  unfold f_Pm_hasRoomFor
  refine am_W.ck ?_
  refine aw_aload_n 0 (kk := ?_)
  refine aw_gI 4 3 22 (hw := wd_132) (kk := fun v1 => ?_)
  refine aw_sipush 400 (v := 400) (kk := ?_)
  refine aw_icmp_ge 20 27 (kt := fun _ => ?_) (kf := fun _ => ?_)
  · refine aw_iconst 0 (v := 0) (kk := ?_)
    exact aw_zretPL (by decide)
  · refine aw_aload_n 0 (kk := ?_)
    refine aw_gA 4 1 15 (hw := wd_130) (kk := fun v2 => ?_)
    refine aw_aload_n 0 (kk := ?_)
    refine aw_gI 4 3 22 (hw := wd_132) (kk := fun v3 => ?_)
    refine aw_lI (kk := fun v4 => ?_)
    refine aw_iload_n 3 (kk := ?_)
    refine aw_iadd (kk := ?_)
    refine aw_sipush 8192 (v := 8192) (kk := ?_)
    refine aw_icmp_le 5 29 (kt := fun _ => ?_) (kf := fun _ => ?_)
    · refine aw_iconst 0 (v := 0) (kk := ?_)
      refine aw_istore 4 (kk := ?_)
      exact am_W.drop [true, true, true, true, true] (b_Pm_hasRoomFor_l32 F x0 x1 x2 x3 F 0)
    · refine aw_iconst 0 (v := 0) (kk := ?_)
      exact aw_zretPL (by decide)
def f_Pm_wouldFit_j20 (σ : am_S) (F : Nat)  : Option (Int32) :=
  some 1
theorem b_Pm_wouldFit_j20 {g : am_G} {σ0 σ : am_S} (F : Nat)   : am_W g mx_Pm_wouldFit σ0 20 [none, none, none, none] [] σ (f_Pm_wouldFit_j20 σ F) (am_kPI σ) := by
  unfold f_Pm_wouldFit_j20
  refine aw_iconst 1 (v := 1) (kk := ?_)
  refine aw_goto 4 25 (kk := ?_)
  exact aw_zretPL (by decide)
def f_Pm_wouldFit (F : Nat) (σ : am_S) (x0 : Nat) (x1 : Nat) (x2 : Int32) (x3 : Int32) : Option (Int32) :=
  am_ck σ 4 x0 (
  (f_Pm_find F σ x0 x1 x2 x3).bind fun v1 =>
  if 0 ≤ v1 then
    f_Pm_wouldFit_j20 σ F
  else
    (f_Pm_hasRoomFor F σ x0 x1 x2 x3).bind fun v2 =>
    if v2 = 0 then
      some 0
    else
      f_Pm_wouldFit_j20 σ F)
theorem rc_Pm_wouldFit {F : Nat} {σ : am_S} {x0 : Nat} {x1 : Nat} {x2 : Int32} {x3 : Int32} (h : (f_Pm_wouldFit F σ x0 x1 x2 x3).isSome = true) : ∃ fs, σ.2.2 x0 = some (.inr (4, fs)) := am_ck_some h
theorem m_Pm_wouldFit (g : am_G) (F : Nat) (σ : am_S) (x0 : Nat) (x1 : Nat) (x2 : Int32) (x3 : Int32) : am_Met g mx_Pm_wouldFit [.ref x0, .ref x1, .int x2, .int x3] σ ((f_Pm_wouldFit F σ x0 x1 x2 x3).bind (am_kPI σ)) := by
  refine am_Met.of (lv := [some (.ref x0), some (.ref x1), some (.int x2), some (.int x3)]) (am_cc rfl (am_cc rfl (am_cc rfl (am_cc rfl am_c0)))) (Nat.le_of_ble_eq_true rfl) rfl (by decide) ?_
  unfold f_Pm_wouldFit
  refine am_W.ck ?_
  refine aw_aload_n 0 (kk := ?_)
  refine aw_aload_n 1 (kk := ?_)
  refine aw_iload_n 2 (kk := ?_)
  refine aw_iload_n 3 (kk := ?_)
  refine ac_PI (st := []) [.ref x0, .ref x1, .int x2, .int x3] (ag_V 38 4 rc_Pm_find wd_545 cal_Pm_find wd_546 wd_547) cal_Pm_find ⟨by decide, by decide⟩ (Nat.le_of_ble_eq_true rfl) (m_Pm_find g F σ x0 x1 x2 x3) (fun v1 => ?_)
  refine aw_if_ge 13 20 (kt := fun _ => ?_) (kf := fun _ => ?_)
  · exact am_W.drop [false, false, false, false] (b_Pm_wouldFit_j20 F)
  · refine aw_aload_n 0 (kk := ?_)
    refine aw_aload_n 1 (kk := ?_)
    refine aw_iload_n 2 (kk := ?_)
    refine aw_iload_n 3 (kk := ?_)
    refine ac_PI (st := []) [.ref x0, .ref x1, .int x2, .int x3] (ag_V 45 4 rc_Pm_hasRoomFor wd_575 cal_Pm_hasRoomFor wd_577 ws_8) cal_Pm_hasRoomFor ⟨by decide, by decide⟩ (Nat.le_of_ble_eq_true rfl) (m_Pm_hasRoomFor g F σ x0 x1 x2 x3) (fun v2 => ?_)
    refine aw_if_eq 7 24 (kt := fun _ => ?_) (kf := fun _ => ?_)
    · refine aw_iconst 0 (v := 0) (kk := ?_)
      exact aw_zretPL (by decide)
    · exact am_W.drop [false, false, false, false] (b_Pm_wouldFit_j20 F)
def f_Pm_insertAt_l57 (F : Nat) (x0 : Nat) (x1 : Int32) (x4 : Int32) (k104 : am_S → Option (am_S)) : Nat → Int32 → am_S → Option (am_S)
  | 0, _, _ => none
  | n + 1, x6, σ =>
    if x6 ≤ x1 then
      k104 σ
    else
      (am_gA σ 4 1 x0).bind fun v12 =>
      (am_gA σ 4 1 x0).bind fun v13 =>
      (am_lI σ .int v13 x6).bind fun v14 =>
      (am_sI σ v12 (x6 + 1) (v14 + x4)).bind fun σ15 =>
      (am_gA σ15 4 2 x0).bind fun v16 =>
      (am_gA σ15 4 2 x0).bind fun v17 =>
      (am_lI σ15 .int v17 (x6 - 1)).bind fun v18 =>
      (am_sI σ15 v16 x6 v18).bind fun σ19 =>
      f_Pm_insertAt_l57 F x0 x1 x4 k104 n (x6 + (-1)) σ19
theorem b_Pm_insertAt_l57 {g : am_G} {σ0 : am_S} (F : Nat) (x0 : Nat) (x1 : Int32) (x4 : Int32) (x5 : Int32) (k104 : am_S → Option (am_S)) (h104 : ∀ (τ : am_S), am_W g mx_Pm_insertAt σ0 104 [some (.ref x0), some (.int x1), none, none, some (.int x4), some (.int x5), none] [] τ (k104 τ) am_kV) : ∀ (n : Nat) (x6 : Int32) (σ : am_S), am_W g mx_Pm_insertAt σ0 57 [some (.ref x0), some (.int x1), none, none, some (.int x4), some (.int x5), some (.int x6)] [] σ (f_Pm_insertAt_l57 F x0 x1 x4 k104 n x6 σ) am_kV := by
  intro n
  induction n with
  | zero =>
    intro x6 σ
    rw [f_Pm_insertAt_l57]
    exact am_W.none
  | succ n ih =>
    intro x6 σ
    rw [f_Pm_insertAt_l57]
    refine aw_iload 6 (kk := ?_)
    refine aw_iload_n 1 (kk := ?_)
    refine aw_icmp_le 44 104 (kt := fun _ => ?_) (kf := fun _ => ?_)
    · exact am_W.drop [true, true, false, false, true, true, false] (h104 σ)
    · refine aw_aload_n 0 (kk := ?_)
      refine aw_gA 4 1 15 (hw := wd_130) (kk := fun v12 => ?_)
      refine aw_iload 6 (kk := ?_)
      refine aw_iconst 1 (v := 1) (kk := ?_)
      refine aw_iadd (kk := ?_)
      refine aw_aload_n 0 (kk := ?_)
      refine aw_gA 4 1 15 (hw := wd_130) (kk := fun v13 => ?_)
      refine aw_iload 6 (kk := ?_)
      refine aw_lI (kk := fun v14 => ?_)
      refine aw_iload 4 (kk := ?_)
      refine aw_iadd (kk := ?_)
      refine aw_sI (kk := fun σ15 => ?_)
      refine aw_aload_n 0 (kk := ?_)
      refine aw_gA 4 2 19 (hw := wd_131) (kk := fun v16 => ?_)
      refine aw_iload 6 (kk := ?_)
      refine aw_aload_n 0 (kk := ?_)
      refine aw_gA 4 2 19 (hw := wd_131) (kk := fun v17 => ?_)
      refine aw_iload 6 (kk := ?_)
      refine aw_iconst 1 (v := 1) (kk := ?_)
      refine aw_isub (kk := ?_)
      refine aw_lI (kk := fun v18 => ?_)
      refine aw_sI (kk := fun σ19 => ?_)
      refine aw_iinc 6 (-1) (v := (-1)) (kk := ?_)
      refine aw_goto (-44) 57 (kk := ?_)
      exact am_W.drop [true, true, false, false, true, true, true] (ih (x6 + (-1)) σ19)
def f_Pm_insertAt_j104 (F : Nat) (x0 : Nat) (x1 : Int32) (x4 : Int32) (x5 : Int32)  (σ : am_S) : Option (am_S) :=
  (am_gA σ 4 1 x0).bind fun v20 =>
  (am_sI σ v20 (x1 + 1) (x5 + x4)).bind fun σ21 =>
  (am_gI σ21 4 3 x0).bind fun v22 =>
  (am_pI σ21 4 3 x0 (v22 + 1)).bind fun σ23 =>
  some σ23
theorem b_Pm_insertAt_j104 {g : am_G} {σ0 : am_S} (F : Nat) (x0 : Nat) (x1 : Int32) (x4 : Int32) (x5 : Int32)   (σ : am_S) : am_W g mx_Pm_insertAt σ0 104 [some (.ref x0), some (.int x1), none, none, some (.int x4), some (.int x5), none] [] σ (f_Pm_insertAt_j104 F x0 x1 x4 x5 σ) am_kV := by
  unfold f_Pm_insertAt_j104
  refine aw_aload_n 0 (kk := ?_)
  refine aw_gA 4 1 15 (hw := wd_130) (kk := fun v20 => ?_)
  refine aw_iload_n 1 (kk := ?_)
  refine aw_iconst 1 (v := 1) (kk := ?_)
  refine aw_iadd (kk := ?_)
  refine aw_iload 5 (kk := ?_)
  refine aw_iload 4 (kk := ?_)
  refine aw_iadd (kk := ?_)
  refine aw_sI (kk := fun σ21 => ?_)
  refine aw_aload_n 0 (kk := ?_)
  refine aw_dup (kk := ?_)
  refine aw_gI 4 3 22 (hw := wd_132) (kk := fun v22 => ?_)
  refine aw_iconst 1 (v := 1) (kk := ?_)
  refine aw_iadd (kk := ?_)
  refine aw_pI 4 3 22 (hw := wd_132) (kk := fun σ23 => ?_)
  exact aw_vret
def f_Pm_insertAt (F : Nat) (σ : am_S) (x0 : Nat) (x1 : Int32) (x2 : Nat) (x3 : Int32) (x4 : Int32) : Option (am_S) :=
  am_ck σ 4 x0 (
  (am_gA σ 4 1 x0).bind fun v1 =>
  (am_lI σ .int v1 x1).bind fun v2 =>
  (am_gA σ 4 0 x0).bind fun v3 =>
  (am_gA σ 4 0 x0).bind fun v4 =>
  (am_gA σ 4 1 x0).bind fun v5 =>
  (am_gI σ 4 3 x0).bind fun v6 =>
  (am_lI σ .int v5 v6).bind fun v7 =>
  (am_cp σ .byte v3 v2 v4 (v2 + x4) (v7 - v2)).bind fun σ8 =>
  (am_gA σ8 4 0 x0).bind fun v9 =>
  (am_cp σ8 .byte x2 x3 v9 v2 x4).bind fun σ10 =>
  (am_gI σ10 4 3 x0).bind fun v11 =>
  f_Pm_insertAt_l57 F x0 x1 x4 (fun τ => f_Pm_insertAt_j104 F x0 x1 x4 v2 τ) F v11 σ10)
theorem rc_Pm_insertAt {F : Nat} {σ : am_S} {x0 : Nat} {x1 : Int32} {x2 : Nat} {x3 : Int32} {x4 : Int32} (h : (f_Pm_insertAt F σ x0 x1 x2 x3 x4).isSome = true) : ∃ fs, σ.2.2 x0 = some (.inr (4, fs)) := am_ck_some h
theorem m_Pm_insertAt (g : am_G) (F : Nat) (σ : am_S) (x0 : Nat) (x1 : Int32) (x2 : Nat) (x3 : Int32) (x4 : Int32) : am_Met g mx_Pm_insertAt [.ref x0, .int x1, .ref x2, .int x3, .int x4] σ ((f_Pm_insertAt F σ x0 x1 x2 x3 x4).bind am_kV) := by
  refine am_Met.of (lv := [some (.ref x0), some (.int x1), some (.ref x2), some (.int x3), some (.int x4), none, none]) (am_cc rfl (am_cc rfl (am_cc rfl (am_cc rfl (am_cc rfl am_c0))))) (Nat.le_of_ble_eq_true rfl) rfl (by decide) ?_
  unfold f_Pm_insertAt
  refine am_W.ck ?_
  refine aw_aload_n 0 (kk := ?_)
  refine aw_gA 4 1 15 (hw := wd_130) (kk := fun v1 => ?_)
  refine aw_iload_n 1 (kk := ?_)
  refine aw_lI (kk := fun v2 => ?_)
  refine aw_istore 5 (kk := ?_)
  refine aw_aload_n 0 (kk := ?_)
  refine aw_gA 4 0 9 (hw := wd_129) (kk := fun v3 => ?_)
  refine aw_iload 5 (kk := ?_)
  refine aw_aload_n 0 (kk := ?_)
  refine aw_gA 4 0 9 (hw := wd_129) (kk := fun v4 => ?_)
  refine aw_iload 5 (kk := ?_)
  refine aw_iload 4 (kk := ?_)
  refine aw_iadd (kk := ?_)
  refine aw_aload_n 0 (kk := ?_)
  refine aw_gA 4 1 15 (hw := wd_130) (kk := fun v5 => ?_)
  refine aw_aload_n 0 (kk := ?_)
  refine aw_gI 4 3 22 (hw := wd_132) (kk := fun v6 => ?_)
  refine aw_lI (kk := fun v7 => ?_)
  refine aw_iload 5 (kk := ?_)
  refine aw_isub (kk := ?_)
  refine aw_cp 53 .byte (hw := wd_632) (hw2 := wd_505) (hw3 := wd_504) (hw4 := wd_19) (hr := Nat.le_of_ble_eq_true rfl) (kk := fun σ8 => ?_)
  refine aw_aload_n 2 (kk := ?_)
  refine aw_iload_n 3 (kk := ?_)
  refine aw_aload_n 0 (kk := ?_)
  refine aw_gA 4 0 9 (hw := wd_129) (kk := fun v9 => ?_)
  refine aw_iload 5 (kk := ?_)
  refine aw_iload 4 (kk := ?_)
  refine aw_cp 53 .byte (hw := wd_632) (hw2 := wd_505) (hw3 := wd_504) (hw4 := wd_19) (hr := Nat.le_of_ble_eq_true rfl) (kk := fun σ10 => ?_)
  refine aw_aload_n 0 (kk := ?_)
  refine aw_gI 4 3 22 (hw := wd_132) (kk := fun v11 => ?_)
  refine aw_istore 6 (kk := ?_)
  exact am_W.drop [true, true, false, false, true, true, true] (b_Pm_insertAt_l57 F x0 x1 x4 v2 (fun τ => f_Pm_insertAt_j104 F x0 x1 x4 v2 τ) (fun τ => am_W.drop [true, true, false, false, true, true, false] (b_Pm_insertAt_j104 F x0 x1 x4 v2 τ)) F v11 σ10)
def f_Pm_assign (F : Nat) (σ : am_S) (x0 : Nat) (x1 : Nat) (x2 : Int32) (x3 : Int32) (x4 : Int32) : Option (am_S) :=
  am_ck σ 4 x0 (
  (f_Pm_placeFor F σ x0 x1 x2 x3).bind fun v1 =>
  (f_Pm_isAt F σ x0 v1 x1 x2 x3).bind fun v2 =>
  if v2 = 0 then
    (f_Pm_insertAt F σ x0 v1 x1 x2 x3).bind fun σ5 =>
    (am_gA σ5 4 2 x0).bind fun v6 =>
    (am_sI σ5 v6 v1 x4).bind fun σ7 =>
    some σ7
  else
    (am_gA σ 4 2 x0).bind fun v3 =>
    (am_sI σ v3 v1 x4).bind fun σ4 =>
    some σ4)
theorem rc_Pm_assign {F : Nat} {σ : am_S} {x0 : Nat} {x1 : Nat} {x2 : Int32} {x3 : Int32} {x4 : Int32} (h : (f_Pm_assign F σ x0 x1 x2 x3 x4).isSome = true) : ∃ fs, σ.2.2 x0 = some (.inr (4, fs)) := am_ck_some h
theorem m_Pm_assign (g : am_G) (F : Nat) (σ : am_S) (x0 : Nat) (x1 : Nat) (x2 : Int32) (x3 : Int32) (x4 : Int32) : am_Met g mx_Pm_assign [.ref x0, .ref x1, .int x2, .int x3, .int x4] σ ((f_Pm_assign F σ x0 x1 x2 x3 x4).bind am_kV) := by
  refine am_Met.of (lv := [some (.ref x0), some (.ref x1), some (.int x2), some (.int x3), some (.int x4), none]) (am_cc rfl (am_cc rfl (am_cc rfl (am_cc rfl (am_cc rfl am_c0))))) (Nat.le_of_ble_eq_true rfl) rfl (by decide) ?_
  unfold f_Pm_assign
  refine am_W.ck ?_
  refine aw_aload_n 0 (kk := ?_)
  refine aw_aload_n 1 (kk := ?_)
  refine aw_iload_n 2 (kk := ?_)
  refine aw_iload_n 3 (kk := ?_)
  refine ac_PI (st := []) [.ref x0, .ref x1, .int x2, .int x3] (ag_V 26 4 rc_Pm_placeFor wd_549 cal_Pm_placeFor wd_551 ws_5) cal_Pm_placeFor ⟨by decide, by decide⟩ (Nat.le_of_ble_eq_true rfl) (m_Pm_placeFor g F σ x0 x1 x2 x3) (fun v1 => ?_)
  refine aw_istore 5 (kk := ?_)
  refine aw_aload_n 0 (kk := ?_)
  refine aw_iload 5 (kk := ?_)
  refine aw_aload_n 1 (kk := ?_)
  refine aw_iload_n 2 (kk := ?_)
  refine aw_iload_n 3 (kk := ?_)
  refine ac_PI (st := []) [.ref x0, .int v1, .ref x1, .int x2, .int x3] (ag_V 30 4 rc_Pm_isAt wd_571 cal_Pm_isAt wd_573 ws_7) cal_Pm_isAt ⟨by decide, by decide⟩ (Nat.le_of_ble_eq_true rfl) (m_Pm_isAt g F σ x0 v1 x1 x2 x3) (fun v2 => ?_)
  refine aw_if_ne 12 30 (kt := fun _ => ?_) (kf := fun _ => ?_)
  · refine aw_aload_n 0 (kk := ?_)
    refine aw_gA 4 2 19 (hw := wd_131) (kk := fun v3 => ?_)
    refine aw_iload 5 (kk := ?_)
    refine aw_iload 4 (kk := ?_)
    refine aw_sI (kk := fun σ4 => ?_)
    exact aw_vret
  · refine aw_aload_n 0 (kk := ?_)
    refine aw_iload 5 (kk := ?_)
    refine aw_aload_n 1 (kk := ?_)
    refine aw_iload_n 2 (kk := ?_)
    refine aw_iload_n 3 (kk := ?_)
    refine ac_V (st := []) [.ref x0, .int v1, .ref x1, .int x2, .int x3] (ag_V 49 4 rc_Pm_insertAt wd_628 cal_Pm_insertAt wd_630 ws_15) cal_Pm_insertAt ⟨by decide, by decide⟩ (Nat.le_of_ble_eq_true rfl) (m_Pm_insertAt g F σ x0 v1 x1 x2 x3) (fun σ5 => ?_)
    refine aw_aload_n 0 (kk := ?_)
    refine aw_gA 4 2 19 (hw := wd_131) (kk := fun v6 => ?_)
    refine aw_iload 5 (kk := ?_)
    refine aw_iload 4 (kk := ?_)
    refine aw_sI (kk := fun σ7 => ?_)
    exact aw_vret
def f_Pm_removeAt_l61 (F : Nat) (x0 : Nat) (x2 : Int32)  : Nat → Int32 → am_S → Option (am_S)
  | 0, _, _ => none
  | n + 1, x3, σ =>
    (am_gI σ 4 3 x0).bind fun v16 =>
    if v16 ≤ x3 then
      some σ
    else
      (am_gA σ 4 1 x0).bind fun v17 =>
      (am_gA σ 4 1 x0).bind fun v18 =>
      (am_lI σ .int v18 (x3 + 2)).bind fun v19 =>
      (am_sI σ v17 (x3 + 1) (v19 - x2)).bind fun σ20 =>
      (am_gA σ20 4 2 x0).bind fun v21 =>
      (am_gA σ20 4 2 x0).bind fun v22 =>
      (am_lI σ20 .int v22 (x3 + 1)).bind fun v23 =>
      (am_sI σ20 v21 x3 v23).bind fun σ24 =>
      f_Pm_removeAt_l61 F x0 x2 n (x3 + 1) σ24
theorem b_Pm_removeAt_l61 {g : am_G} {σ0 : am_S} (F : Nat) (x0 : Nat) (x2 : Int32)   : ∀ (n : Nat) (x3 : Int32) (σ : am_S), am_W g mx_Pm_removeAt σ0 61 [some (.ref x0), none, some (.int x2), some (.int x3)] [] σ (f_Pm_removeAt_l61 F x0 x2 n x3 σ) am_kV := by
  intro n
  induction n with
  | zero =>
    intro x3 σ
    rw [f_Pm_removeAt_l61]
    exact am_W.none
  | succ n ih =>
    intro x3 σ
    rw [f_Pm_removeAt_l61]
    refine aw_iload_n 3 (kk := ?_)
    refine aw_aload_n 0 (kk := ?_)
    refine aw_gI 4 3 22 (hw := wd_132) (kk := fun v16 => ?_)
    refine aw_icmp_ge 41 107 (kt := fun _ => ?_) (kf := fun _ => ?_)
    · exact aw_vret
    · refine aw_aload_n 0 (kk := ?_)
      refine aw_gA 4 1 15 (hw := wd_130) (kk := fun v17 => ?_)
      refine aw_iload_n 3 (kk := ?_)
      refine aw_iconst 1 (v := 1) (kk := ?_)
      refine aw_iadd (kk := ?_)
      refine aw_aload_n 0 (kk := ?_)
      refine aw_gA 4 1 15 (hw := wd_130) (kk := fun v18 => ?_)
      refine aw_iload_n 3 (kk := ?_)
      refine aw_iconst 2 (v := 2) (kk := ?_)
      refine aw_iadd (kk := ?_)
      refine aw_lI (kk := fun v19 => ?_)
      refine aw_iload_n 2 (kk := ?_)
      refine aw_isub (kk := ?_)
      refine aw_sI (kk := fun σ20 => ?_)
      refine aw_aload_n 0 (kk := ?_)
      refine aw_gA 4 2 19 (hw := wd_131) (kk := fun v21 => ?_)
      refine aw_iload_n 3 (kk := ?_)
      refine aw_aload_n 0 (kk := ?_)
      refine aw_gA 4 2 19 (hw := wd_131) (kk := fun v22 => ?_)
      refine aw_iload_n 3 (kk := ?_)
      refine aw_iconst 1 (v := 1) (kk := ?_)
      refine aw_iadd (kk := ?_)
      refine aw_lI (kk := fun v23 => ?_)
      refine aw_sI (kk := fun σ24 => ?_)
      refine aw_iinc 3 1 (v := 1) (kk := ?_)
      refine aw_goto (-43) 61 (kk := ?_)
      exact am_W.drop [true, false, true, true] (ih (x3 + 1) σ24)
def f_Pm_removeAt (F : Nat) (σ : am_S) (x0 : Nat) (x1 : Int32) : Option (am_S) :=
  am_ck σ 4 x0 (
  (f_Pm_lengthOf F σ x0 x1).bind fun v1 =>
  (am_gA σ 4 0 x0).bind fun v2 =>
  (am_gA σ 4 1 x0).bind fun v3 =>
  (am_lI σ .int v3 (x1 + 1)).bind fun v4 =>
  (am_gA σ 4 0 x0).bind fun v5 =>
  (am_gA σ 4 1 x0).bind fun v6 =>
  (am_lI σ .int v6 x1).bind fun v7 =>
  (am_gA σ 4 1 x0).bind fun v8 =>
  (am_gI σ 4 3 x0).bind fun v9 =>
  (am_lI σ .int v8 v9).bind fun v10 =>
  (am_gA σ 4 1 x0).bind fun v11 =>
  (am_lI σ .int v11 (x1 + 1)).bind fun v12 =>
  (am_cp σ .byte v2 v4 v5 v7 (v10 - v12)).bind fun σ13 =>
  (am_gI σ13 4 3 x0).bind fun v14 =>
  (am_pI σ13 4 3 x0 (v14 - 1)).bind fun σ15 =>
  f_Pm_removeAt_l61 F x0 v1 F x1 σ15)
theorem rc_Pm_removeAt {F : Nat} {σ : am_S} {x0 : Nat} {x1 : Int32} (h : (f_Pm_removeAt F σ x0 x1).isSome = true) : ∃ fs, σ.2.2 x0 = some (.inr (4, fs)) := am_ck_some h
theorem m_Pm_removeAt (g : am_G) (F : Nat) (σ : am_S) (x0 : Nat) (x1 : Int32) : am_Met g mx_Pm_removeAt [.ref x0, .int x1] σ ((f_Pm_removeAt F σ x0 x1).bind am_kV) := by
  refine am_Met.of (lv := [some (.ref x0), some (.int x1), none, none]) (am_cc rfl (am_cc rfl am_c0)) (Nat.le_of_ble_eq_true rfl) rfl (by decide) ?_
  unfold f_Pm_removeAt
  refine am_W.ck ?_
  refine aw_aload_n 0 (kk := ?_)
  refine aw_iload_n 1 (kk := ?_)
  refine ac_PI (st := []) [.ref x0, .int x1] (ag_V 34 4 rc_Pm_lengthOf wd_557 cal_Pm_lengthOf wd_558 wd_559) cal_Pm_lengthOf ⟨by decide, by decide⟩ (Nat.le_of_ble_eq_true rfl) (m_Pm_lengthOf g F σ x0 x1) (fun v1 => ?_)
  refine aw_istore_n 2 (kk := ?_)
  refine aw_aload_n 0 (kk := ?_)
  refine aw_gA 4 0 9 (hw := wd_129) (kk := fun v2 => ?_)
  refine aw_aload_n 0 (kk := ?_)
  refine aw_gA 4 1 15 (hw := wd_130) (kk := fun v3 => ?_)
  refine aw_iload_n 1 (kk := ?_)
  refine aw_iconst 1 (v := 1) (kk := ?_)
  refine aw_iadd (kk := ?_)
  refine aw_lI (kk := fun v4 => ?_)
  refine aw_aload_n 0 (kk := ?_)
  refine aw_gA 4 0 9 (hw := wd_129) (kk := fun v5 => ?_)
  refine aw_aload_n 0 (kk := ?_)
  refine aw_gA 4 1 15 (hw := wd_130) (kk := fun v6 => ?_)
  refine aw_iload_n 1 (kk := ?_)
  refine aw_lI (kk := fun v7 => ?_)
  refine aw_aload_n 0 (kk := ?_)
  refine aw_gA 4 1 15 (hw := wd_130) (kk := fun v8 => ?_)
  refine aw_aload_n 0 (kk := ?_)
  refine aw_gI 4 3 22 (hw := wd_132) (kk := fun v9 => ?_)
  refine aw_lI (kk := fun v10 => ?_)
  refine aw_aload_n 0 (kk := ?_)
  refine aw_gA 4 1 15 (hw := wd_130) (kk := fun v11 => ?_)
  refine aw_iload_n 1 (kk := ?_)
  refine aw_iconst 1 (v := 1) (kk := ?_)
  refine aw_iadd (kk := ?_)
  refine aw_lI (kk := fun v12 => ?_)
  refine aw_isub (kk := ?_)
  refine aw_cp 53 .byte (hw := wd_632) (hw2 := wd_505) (hw3 := wd_504) (hw4 := wd_19) (hr := Nat.le_of_ble_eq_true rfl) (kk := fun σ13 => ?_)
  refine aw_aload_n 0 (kk := ?_)
  refine aw_dup (kk := ?_)
  refine aw_gI 4 3 22 (hw := wd_132) (kk := fun v14 => ?_)
  refine aw_iconst 1 (v := 1) (kk := ?_)
  refine aw_isub (kk := ?_)
  refine aw_pI 4 3 22 (hw := wd_132) (kk := fun σ15 => ?_)
  refine aw_iload_n 1 (kk := ?_)
  refine aw_istore_n 3 (kk := ?_)
  exact am_W.drop [true, false, true, true] (b_Pm_removeAt_l61 F x0 v1 F x1 σ15)
def f_Pm_become (F : Nat) (σ : am_S) (x0 : Nat) (x1 : Nat) : Option (am_S) :=
  am_ck σ 4 x0 (
  (am_gA σ 4 0 x1).bind fun v1 =>
  (am_gA σ 4 0 x0).bind fun v2 =>
  (am_gA σ 4 1 x1).bind fun v3 =>
  (am_gI σ 4 3 x1).bind fun v4 =>
  (am_lI σ .int v3 v4).bind fun v5 =>
  (am_cp σ .byte v1 0 v2 0 v5).bind fun σ6 =>
  (am_gA σ6 4 1 x1).bind fun v7 =>
  (am_gA σ6 4 1 x0).bind fun v8 =>
  (am_gI σ6 4 3 x1).bind fun v9 =>
  (am_cp σ6 .int v7 0 v8 0 (v9 + 1)).bind fun σ10 =>
  (am_gA σ10 4 2 x1).bind fun v11 =>
  (am_gA σ10 4 2 x0).bind fun v12 =>
  (am_gI σ10 4 3 x1).bind fun v13 =>
  (am_cp σ10 .int v11 0 v12 0 v13).bind fun σ14 =>
  (am_gI σ14 4 3 x1).bind fun v15 =>
  (am_pI σ14 4 3 x0 v15).bind fun σ16 =>
  some σ16)
theorem rc_Pm_become {F : Nat} {σ : am_S} {x0 : Nat} {x1 : Nat} (h : (f_Pm_become F σ x0 x1).isSome = true) : ∃ fs, σ.2.2 x0 = some (.inr (4, fs)) := am_ck_some h
theorem m_Pm_become (g : am_G) (F : Nat) (σ : am_S) (x0 : Nat) (x1 : Nat) : am_Met g mx_Pm_become [.ref x0, .ref x1] σ ((f_Pm_become F σ x0 x1).bind am_kV) := by
  refine am_Met.of (lv := [some (.ref x0), some (.ref x1)]) (am_cc rfl (am_cc rfl am_c0)) (Nat.le_of_ble_eq_true rfl) rfl (by decide) ?_
  unfold f_Pm_become
  refine am_W.ck ?_
  refine aw_aload_n 1 (kk := ?_)
  refine aw_gA 4 0 9 (hw := wd_129) (kk := fun v1 => ?_)
  refine aw_iconst 0 (v := 0) (kk := ?_)
  refine aw_aload_n 0 (kk := ?_)
  refine aw_gA 4 0 9 (hw := wd_129) (kk := fun v2 => ?_)
  refine aw_iconst 0 (v := 0) (kk := ?_)
  refine aw_aload_n 1 (kk := ?_)
  refine aw_gA 4 1 15 (hw := wd_130) (kk := fun v3 => ?_)
  refine aw_aload_n 1 (kk := ?_)
  refine aw_gI 4 3 22 (hw := wd_132) (kk := fun v4 => ?_)
  refine aw_lI (kk := fun v5 => ?_)
  refine aw_cp 53 .byte (hw := wd_632) (hw2 := wd_505) (hw3 := wd_504) (hw4 := wd_19) (hr := Nat.le_of_ble_eq_true rfl) (kk := fun σ6 => ?_)
  refine aw_aload_n 1 (kk := ?_)
  refine aw_gA 4 1 15 (hw := wd_130) (kk := fun v7 => ?_)
  refine aw_iconst 0 (v := 0) (kk := ?_)
  refine aw_aload_n 0 (kk := ?_)
  refine aw_gA 4 1 15 (hw := wd_130) (kk := fun v8 => ?_)
  refine aw_iconst 0 (v := 0) (kk := ?_)
  refine aw_aload_n 1 (kk := ?_)
  refine aw_gI 4 3 22 (hw := wd_132) (kk := fun v9 => ?_)
  refine aw_iconst 1 (v := 1) (kk := ?_)
  refine aw_iadd (kk := ?_)
  refine aw_cp 53 .int (hw := wd_632) (hw2 := wd_505) (hw3 := wd_504) (hw4 := wd_19) (hr := Nat.le_of_ble_eq_true rfl) (kk := fun σ10 => ?_)
  refine aw_aload_n 1 (kk := ?_)
  refine aw_gA 4 2 19 (hw := wd_131) (kk := fun v11 => ?_)
  refine aw_iconst 0 (v := 0) (kk := ?_)
  refine aw_aload_n 0 (kk := ?_)
  refine aw_gA 4 2 19 (hw := wd_131) (kk := fun v12 => ?_)
  refine aw_iconst 0 (v := 0) (kk := ?_)
  refine aw_aload_n 1 (kk := ?_)
  refine aw_gI 4 3 22 (hw := wd_132) (kk := fun v13 => ?_)
  refine aw_cp 53 .int (hw := wd_632) (hw2 := wd_505) (hw3 := wd_504) (hw4 := wd_19) (hr := Nat.le_of_ble_eq_true rfl) (kk := fun σ14 => ?_)
  refine aw_aload_n 0 (kk := ?_)
  refine aw_aload_n 1 (kk := ?_)
  refine aw_gI 4 3 22 (hw := wd_132) (kk := fun v15 => ?_)
  refine aw_pI 4 3 22 (hw := wd_132) (kk := fun σ16 => ?_)
  exact aw_vret
def f_Pm_size (F : Nat) (σ : am_S) (x0 : Nat) : Option (Int32) :=
  am_ck σ 4 x0 (
  (am_gI σ 4 3 x0).bind fun v1 =>
  some v1)
theorem rc_Pm_size {F : Nat} {σ : am_S} {x0 : Nat} (h : (f_Pm_size F σ x0).isSome = true) : ∃ fs, σ.2.2 x0 = some (.inr (4, fs)) := am_ck_some h
theorem m_Pm_size (g : am_G) (F : Nat) (σ : am_S) (x0 : Nat) : am_Met g mx_Pm_size [.ref x0] σ ((f_Pm_size F σ x0).bind (am_kPI σ)) := by
  refine am_Met.of (lv := [some (.ref x0)]) (am_cc rfl am_c0) (Nat.le_of_ble_eq_true rfl) rfl (by decide) ?_
  unfold f_Pm_size
  refine am_W.ck ?_
  refine aw_aload_n 0 (kk := ?_)
  refine aw_gI 4 3 22 (hw := wd_132) (kk := fun v1 => ?_)
  exact aw_iretP
def f_Pm_comparePaths (F : Nat) (σ : am_S) (x0 : Nat) (x1 : Int32) (x2 : Nat) (x3 : Int32) : Option (Int32) :=
  am_ck σ 4 x0 (
  (am_gA σ 4 0 x2).bind fun v1 =>
  (am_gA σ 4 1 x2).bind fun v2 =>
  (am_lI σ .int v2 x3).bind fun v3 =>
  (f_Pm_lengthOf F σ x2 x3).bind fun v4 =>
  (f_Pm_compareAt F σ x0 x1 v1 v3 v4).bind fun v5 =>
  some v5)
theorem rc_Pm_comparePaths {F : Nat} {σ : am_S} {x0 : Nat} {x1 : Int32} {x2 : Nat} {x3 : Int32} (h : (f_Pm_comparePaths F σ x0 x1 x2 x3).isSome = true) : ∃ fs, σ.2.2 x0 = some (.inr (4, fs)) := am_ck_some h
theorem m_Pm_comparePaths (g : am_G) (F : Nat) (σ : am_S) (x0 : Nat) (x1 : Int32) (x2 : Nat) (x3 : Int32) : am_Met g mx_Pm_comparePaths [.ref x0, .int x1, .ref x2, .int x3] σ ((f_Pm_comparePaths F σ x0 x1 x2 x3).bind (am_kPI σ)) := by
  refine am_Met.of (lv := [some (.ref x0), some (.int x1), some (.ref x2), some (.int x3)]) (am_cc rfl (am_cc rfl (am_cc rfl (am_cc rfl am_c0)))) (Nat.le_of_ble_eq_true rfl) rfl (by decide) ?_
  unfold f_Pm_comparePaths
  refine am_W.ck ?_
  refine aw_aload_n 0 (kk := ?_)
  refine aw_iload_n 1 (kk := ?_)
  refine aw_aload_n 2 (kk := ?_)
  refine aw_gA 4 0 9 (hw := wd_129) (kk := fun v1 => ?_)
  refine aw_aload_n 2 (kk := ?_)
  refine aw_gA 4 1 15 (hw := wd_130) (kk := fun v2 => ?_)
  refine aw_iload_n 3 (kk := ?_)
  refine aw_lI (kk := fun v3 => ?_)
  refine aw_aload_n 2 (kk := ?_)
  refine aw_iload_n 3 (kk := ?_)
  refine ac_PI (st := [.int v3, .ref v1, .int x1, .ref x0]) [.ref x2, .int x3] (ag_V 34 4 rc_Pm_lengthOf wd_557 cal_Pm_lengthOf wd_558 wd_559) cal_Pm_lengthOf ⟨by decide, by decide⟩ (Nat.le_of_ble_eq_true rfl) (m_Pm_lengthOf g F σ x2 x3) (fun v4 => ?_)
  refine ac_PI (st := []) [.ref x0, .int x1, .ref v1, .int v3, .int v4] (ag_V 41 4 rc_Pm_compareAt wd_553 cal_Pm_compareAt wd_555 ws_6) cal_Pm_compareAt ⟨by decide, by decide⟩ (Nat.le_of_ble_eq_true rfl) (m_Pm_compareAt g F σ x0 x1 v1 v3 v4) (fun v5 => ?_)
  exact aw_iretP
def f_Pm_valueAt (F : Nat) (σ : am_S) (x0 : Nat) (x1 : Int32) : Option (Int32) :=
  am_ck σ 4 x0 (
  (am_gA σ 4 2 x0).bind fun v1 =>
  (am_lI σ .int v1 x1).bind fun v2 =>
  some v2)
theorem rc_Pm_valueAt {F : Nat} {σ : am_S} {x0 : Nat} {x1 : Int32} (h : (f_Pm_valueAt F σ x0 x1).isSome = true) : ∃ fs, σ.2.2 x0 = some (.inr (4, fs)) := am_ck_some h
theorem m_Pm_valueAt (g : am_G) (F : Nat) (σ : am_S) (x0 : Nat) (x1 : Int32) : am_Met g mx_Pm_valueAt [.ref x0, .int x1] σ ((f_Pm_valueAt F σ x0 x1).bind (am_kPI σ)) := by
  refine am_Met.of (lv := [some (.ref x0), some (.int x1)]) (am_cc rfl (am_cc rfl am_c0)) (Nat.le_of_ble_eq_true rfl) rfl (by decide) ?_
  unfold f_Pm_valueAt
  refine am_W.ck ?_
  refine aw_aload_n 0 (kk := ?_)
  refine aw_gA 4 2 19 (hw := wd_131) (kk := fun v1 => ?_)
  refine aw_iload_n 1 (kk := ?_)
  refine aw_lI (kk := fun v2 => ?_)
  exact aw_iretP
def f_Pm_findPathOf (F : Nat) (σ : am_S) (x0 : Nat) (x1 : Nat) (x2 : Int32) : Option (Int32) :=
  am_ck σ 4 x0 (
  (am_gA σ 4 0 x1).bind fun v1 =>
  (am_gA σ 4 1 x1).bind fun v2 =>
  (am_lI σ .int v2 x2).bind fun v3 =>
  (f_Pm_lengthOf F σ x1 x2).bind fun v4 =>
  (f_Pm_find F σ x0 v1 v3 v4).bind fun v5 =>
  some v5)
theorem rc_Pm_findPathOf {F : Nat} {σ : am_S} {x0 : Nat} {x1 : Nat} {x2 : Int32} (h : (f_Pm_findPathOf F σ x0 x1 x2).isSome = true) : ∃ fs, σ.2.2 x0 = some (.inr (4, fs)) := am_ck_some h
theorem m_Pm_findPathOf (g : am_G) (F : Nat) (σ : am_S) (x0 : Nat) (x1 : Nat) (x2 : Int32) : am_Met g mx_Pm_findPathOf [.ref x0, .ref x1, .int x2] σ ((f_Pm_findPathOf F σ x0 x1 x2).bind (am_kPI σ)) := by
  refine am_Met.of (lv := [some (.ref x0), some (.ref x1), some (.int x2)]) (am_cc rfl (am_cc rfl (am_cc rfl am_c0))) (Nat.le_of_ble_eq_true rfl) rfl (by decide) ?_
  unfold f_Pm_findPathOf
  refine am_W.ck ?_
  refine aw_aload_n 0 (kk := ?_)
  refine aw_aload_n 1 (kk := ?_)
  refine aw_gA 4 0 9 (hw := wd_129) (kk := fun v1 => ?_)
  refine aw_aload_n 1 (kk := ?_)
  refine aw_gA 4 1 15 (hw := wd_130) (kk := fun v2 => ?_)
  refine aw_iload_n 2 (kk := ?_)
  refine aw_lI (kk := fun v3 => ?_)
  refine aw_aload_n 1 (kk := ?_)
  refine aw_iload_n 2 (kk := ?_)
  refine ac_PI (st := [.int v3, .ref v1, .ref x0]) [.ref x1, .int x2] (ag_V 34 4 rc_Pm_lengthOf wd_557 cal_Pm_lengthOf wd_558 wd_559) cal_Pm_lengthOf ⟨by decide, by decide⟩ (Nat.le_of_ble_eq_true rfl) (m_Pm_lengthOf g F σ x1 x2) (fun v4 => ?_)
  refine ac_PI (st := []) [.ref x0, .ref v1, .int v3, .int v4] (ag_V 38 4 rc_Pm_find wd_545 cal_Pm_find wd_546 wd_547) cal_Pm_find ⟨by decide, by decide⟩ (Nat.le_of_ble_eq_true rfl) (m_Pm_find g F σ x0 v1 v3 v4) (fun v5 => ?_)
  exact aw_iretP
def f_Pm_clear (F : Nat) (σ : am_S) (x0 : Nat) : Option (am_S) :=
  am_ck σ 4 x0 (
  (am_pI σ 4 3 x0 0).bind fun σ1 =>
  some σ1)
theorem rc_Pm_clear {F : Nat} {σ : am_S} {x0 : Nat} (h : (f_Pm_clear F σ x0).isSome = true) : ∃ fs, σ.2.2 x0 = some (.inr (4, fs)) := am_ck_some h
theorem m_Pm_clear (g : am_G) (F : Nat) (σ : am_S) (x0 : Nat) : am_Met g mx_Pm_clear [.ref x0] σ ((f_Pm_clear F σ x0).bind am_kV) := by
  refine am_Met.of (lv := [some (.ref x0)]) (am_cc rfl am_c0) (Nat.le_of_ble_eq_true rfl) rfl (by decide) ?_
  unfold f_Pm_clear
  refine am_W.ck ?_
  refine aw_aload_n 0 (kk := ?_)
  refine aw_iconst 0 (v := 0) (kk := ?_)
  refine aw_pI 4 3 22 (hw := wd_132) (kk := fun σ1 => ?_)
  exact aw_vret
def f_Pm_addPathOf (F : Nat) (σ : am_S) (x0 : Nat) (x1 : Nat) (x2 : Int32) (x3 : Int32) : Option (Int32 × am_S) :=
  am_ck σ 4 x0 (
  (am_gA σ 4 1 x1).bind fun v1 =>
  (am_lI σ .int v1 x2).bind fun v2 =>
  (f_Pm_lengthOf F σ x1 x2).bind fun v3 =>
  (am_gA σ 4 0 x1).bind fun v4 =>
  (f_Pm_placeFor F σ x0 v4 v2 v3).bind fun v5 =>
  (am_gA σ 4 0 x1).bind fun v6 =>
  (f_Pm_isAt F σ x0 v5 v6 v2 v3).bind fun v7 =>
  if v7 = 0 then
    (am_gA σ 4 0 x1).bind fun v8 =>
    (f_Pm_hasRoomFor F σ x0 v8 v2 v3).bind fun v9 =>
    if v9 = 0 then
      some (0, σ)
    else
      (am_gA σ 4 0 x1).bind fun v10 =>
      (f_Pm_insertAt F σ x0 v5 v10 v2 v3).bind fun σ11 =>
      (am_gA σ11 4 2 x0).bind fun v12 =>
      (am_sI σ11 v12 v5 x3).bind fun σ13 =>
      some (1, σ13)
  else
    some (0, σ))
theorem rc_Pm_addPathOf {F : Nat} {σ : am_S} {x0 : Nat} {x1 : Nat} {x2 : Int32} {x3 : Int32} (h : (f_Pm_addPathOf F σ x0 x1 x2 x3).isSome = true) : ∃ fs, σ.2.2 x0 = some (.inr (4, fs)) := am_ck_some h
theorem m_Pm_addPathOf (g : am_G) (F : Nat) (σ : am_S) (x0 : Nat) (x1 : Nat) (x2 : Int32) (x3 : Int32) : am_Met g mx_Pm_addPathOf [.ref x0, .ref x1, .int x2, .int x3] σ ((f_Pm_addPathOf F σ x0 x1 x2 x3).bind am_kI) := by
  refine am_Met.of (lv := [some (.ref x0), some (.ref x1), some (.int x2), some (.int x3), none, none, none]) (am_cc rfl (am_cc rfl (am_cc rfl (am_cc rfl am_c0)))) (Nat.le_of_ble_eq_true rfl) rfl (by decide) ?_
  unfold f_Pm_addPathOf
  refine am_W.ck ?_
  refine aw_aload_n 1 (kk := ?_)
  refine aw_gA 4 1 15 (hw := wd_130) (kk := fun v1 => ?_)
  refine aw_iload_n 2 (kk := ?_)
  refine aw_lI (kk := fun v2 => ?_)
  refine aw_istore 4 (kk := ?_)
  refine aw_aload_n 1 (kk := ?_)
  refine aw_iload_n 2 (kk := ?_)
  refine ac_PI (st := []) [.ref x1, .int x2] (ag_V 34 4 rc_Pm_lengthOf wd_557 cal_Pm_lengthOf wd_558 wd_559) cal_Pm_lengthOf ⟨by decide, by decide⟩ (Nat.le_of_ble_eq_true rfl) (m_Pm_lengthOf g F σ x1 x2) (fun v3 => ?_)
  refine aw_istore 5 (kk := ?_)
  refine aw_aload_n 0 (kk := ?_)
  refine aw_aload_n 1 (kk := ?_)
  refine aw_gA 4 0 9 (hw := wd_129) (kk := fun v4 => ?_)
  refine aw_iload 4 (kk := ?_)
  refine aw_iload 5 (kk := ?_)
  refine ac_PI (st := []) [.ref x0, .ref v4, .int v2, .int v3] (ag_V 26 4 rc_Pm_placeFor wd_549 cal_Pm_placeFor wd_551 ws_5) cal_Pm_placeFor ⟨by decide, by decide⟩ (Nat.le_of_ble_eq_true rfl) (m_Pm_placeFor g F σ x0 v4 v2 v3) (fun v5 => ?_)
  refine aw_istore 6 (kk := ?_)
  refine aw_aload_n 0 (kk := ?_)
  refine aw_iload 6 (kk := ?_)
  refine aw_aload_n 1 (kk := ?_)
  refine aw_gA 4 0 9 (hw := wd_129) (kk := fun v6 => ?_)
  refine aw_iload 4 (kk := ?_)
  refine aw_iload 5 (kk := ?_)
  refine ac_PI (st := []) [.ref x0, .int v5, .ref v6, .int v2, .int v3] (ag_V 30 4 rc_Pm_isAt wd_571 cal_Pm_isAt wd_573 ws_7) cal_Pm_isAt ⟨by decide, by decide⟩ (Nat.le_of_ble_eq_true rfl) (m_Pm_isAt g F σ x0 v5 v6 v2 v3) (fun v7 => ?_)
  refine aw_if_ne 18 61 (kt := fun _ => ?_) (kf := fun _ => ?_)
  · refine aw_iconst 0 (v := 0) (kk := ?_)
    exact aw_zretL (by decide)
  · refine aw_aload_n 0 (kk := ?_)
    refine aw_aload_n 1 (kk := ?_)
    refine aw_gA 4 0 9 (hw := wd_129) (kk := fun v8 => ?_)
    refine aw_iload 4 (kk := ?_)
    refine aw_iload 5 (kk := ?_)
    refine ac_PI (st := []) [.ref x0, .ref v8, .int v2, .int v3] (ag_V 45 4 rc_Pm_hasRoomFor wd_575 cal_Pm_hasRoomFor wd_577 ws_8) cal_Pm_hasRoomFor ⟨by decide, by decide⟩ (Nat.le_of_ble_eq_true rfl) (m_Pm_hasRoomFor g F σ x0 v8 v2 v3) (fun v9 => ?_)
    refine aw_if_ne 5 63 (kt := fun _ => ?_) (kf := fun _ => ?_)
    · refine aw_aload_n 0 (kk := ?_)
      refine aw_iload 6 (kk := ?_)
      refine aw_aload_n 1 (kk := ?_)
      refine aw_gA 4 0 9 (hw := wd_129) (kk := fun v10 => ?_)
      refine aw_iload 4 (kk := ?_)
      refine aw_iload 5 (kk := ?_)
      refine ac_V (st := []) [.ref x0, .int v5, .ref v10, .int v2, .int v3] (ag_V 49 4 rc_Pm_insertAt wd_628 cal_Pm_insertAt wd_630 ws_15) cal_Pm_insertAt ⟨by decide, by decide⟩ (Nat.le_of_ble_eq_true rfl) (m_Pm_insertAt g F σ x0 v5 v10 v2 v3) (fun σ11 => ?_)
      refine aw_aload_n 0 (kk := ?_)
      refine aw_gA 4 2 19 (hw := wd_131) (kk := fun v12 => ?_)
      refine aw_iload 6 (kk := ?_)
      refine aw_iload_n 3 (kk := ?_)
      refine aw_sI (kk := fun σ13 => ?_)
      refine aw_iconst 1 (v := 1) (kk := ?_)
      exact aw_zretL (by decide)
    · refine aw_iconst 0 (v := 0) (kk := ?_)
      exact aw_zretL (by decide)
def f_Pm_has (F : Nat) (σ : am_S) (x0 : Nat) (x1 : Int32) : Option (Int32) :=
  am_ck σ 4 x0 (
  if x1 < 0 then
    some 0
  else
    (am_gI σ 4 3 x0).bind fun v1 =>
    if v1 ≤ x1 then
      some 0
    else
      some 1)
theorem rc_Pm_has {F : Nat} {σ : am_S} {x0 : Nat} {x1 : Int32} (h : (f_Pm_has F σ x0 x1).isSome = true) : ∃ fs, σ.2.2 x0 = some (.inr (4, fs)) := am_ck_some h
theorem m_Pm_has (g : am_G) (F : Nat) (σ : am_S) (x0 : Nat) (x1 : Int32) : am_Met g mx_Pm_has [.ref x0, .int x1] σ ((f_Pm_has F σ x0 x1).bind (am_kPI σ)) := by
  refine am_Met.of (lv := [some (.ref x0), some (.int x1)]) (am_cc rfl (am_cc rfl am_c0)) (Nat.le_of_ble_eq_true rfl) rfl (by decide) ?_
  unfold f_Pm_has
  refine am_W.ck ?_
  refine aw_iload_n 1 (kk := ?_)
  refine aw_if_lt 15 16 (kt := fun _ => ?_) (kf := fun _ => ?_)
  · refine aw_iconst 0 (v := 0) (kk := ?_)
    exact aw_zretPL (by decide)
  · refine aw_iload_n 1 (kk := ?_)
    refine aw_aload_n 0 (kk := ?_)
    refine aw_gI 4 3 22 (hw := wd_132) (kk := fun v1 => ?_)
    refine aw_icmp_ge 7 16 (kt := fun _ => ?_) (kf := fun _ => ?_)
    · refine aw_iconst 0 (v := 0) (kk := ?_)
      exact aw_zretPL (by decide)
    · refine aw_iconst 1 (v := 1) (kk := ?_)
      refine aw_goto 4 17 (kk := ?_)
      exact aw_zretPL (by decide)
