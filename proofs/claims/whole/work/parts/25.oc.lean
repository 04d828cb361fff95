/-! ===== printed by wip/gen ===== -/
def f_Oc_init (F : Nat) (σ : am_S) (x0 : Nat) (x1 : Nat) : Option (am_S) :=
  am_ck σ 9 x0 (
  (f_Pm_init F (am_no σ 4) σ.1).bind fun σ1 =>
  (am_pA σ1 9 1 x0 σ.1).bind fun σ2 =>
  am_b2 (am_na σ2 .boolean 400) fun a3 σ4 =>
  (am_pA σ4 9 2 x0 a3).bind fun σ5 =>
  am_b2 (am_na σ5 .int 1200) fun a6 σ7 =>
  (am_pA σ7 9 3 x0 a6).bind fun σ8 =>
  am_b2 (am_na σ8 .int 400) fun a9 σ10 =>
  (am_pA σ10 9 4 x0 a9).bind fun σ11 =>
  am_b2 (am_na σ11 .int 400) fun a12 σ13 =>
  (am_pA σ13 9 5 x0 a12).bind fun σ14 =>
  am_b2 (am_na σ14 .int 400) fun a15 σ16 =>
  (am_pA σ16 9 6 x0 a15).bind fun σ17 =>
  am_b2 (am_na σ17 .byte 65536) fun a18 σ19 =>
  (am_pA σ19 9 7 x0 a18).bind fun σ20 =>
  (am_pA σ20 9 0 x0 x1).bind fun σ21 =>
  some σ21)
theorem rc_Oc_init {F : Nat} {σ : am_S} {x0 : Nat} {x1 : Nat} (h : (f_Oc_init F σ x0 x1).isSome = true) : ∃ fs, σ.2.2 x0 = some (.inr (9, fs)) := am_ck_some h
theorem m_Oc_init (g : am_G) (F : Nat) (σ : am_S) (x0 : Nat) (x1 : Nat) : am_Met g mx_Oc_init [.ref x0, .ref x1] σ ((f_Oc_init F σ x0 x1).bind am_kV) := by
  refine am_Met.of (lv := [some (.ref x0), some (.ref x1)]) (am_cc rfl (am_cc rfl am_c0)) (Nat.le_of_ble_eq_true rfl) rfl (by decide) ?_
  unfold f_Oc_init
  refine am_W.ck ?_
  refine aw_aload_n 0 (kk := ?_)
  refine aw_obj 3 (hw := wd_250) (hw2 := wd_33) (hw3 := wd_34) (hr := Nat.le_of_ble_eq_true rfl) (kk := ?_)
  refine aw_aload_n 0 (kk := ?_)
  refine aw_new 4 9 (hw := wd_251) (hw2 := wd_124) (hw3 := wd_5) (kk := ?_)
  refine aw_dup (kk := ?_)
  refine ac_V (st := [.ref σ.1, .ref x0]) [.ref σ.1] (ag_IN 11 "MapMerger" wd_252 cal_Pm_init wd_126) cal_Pm_init ⟨by decide, by decide⟩ (Nat.le_of_ble_eq_true rfl) (m_Pm_init g F (am_no σ 4) σ.1) (fun σ1 => ?_)
  refine aw_pAF 9 1 12 (hw := wd_255) (kk := fun σ2 => ?_)
  refine aw_aload_n 0 (kk := ?_)
  refine aw_sipush 400 (v := 400) (kk := ?_)
  refine aw_na2 .boolean (hw := wd_96) (kk := fun a3 σ4 => ?_)
  refine aw_pAF 9 2 18 (hw := wd_256) (kk := fun σ5 => ?_)
  refine aw_aload_n 0 (kk := ?_)
  refine aw_sipush 1200 (v := 1200) (kk := ?_)
  refine aw_na2 .int (hw := wd_55) (kk := fun a6 σ7 => ?_)
  refine aw_pAF 9 3 22 (hw := wd_257) (kk := fun σ8 => ?_)
  refine aw_aload_n 0 (kk := ?_)
  refine aw_sipush 400 (v := 400) (kk := ?_)
  refine aw_na2 .int (hw := wd_55) (kk := fun a9 σ10 => ?_)
  refine aw_pAF 9 4 26 (hw := wd_258) (kk := fun σ11 => ?_)
  refine aw_aload_n 0 (kk := ?_)
  refine aw_sipush 400 (v := 400) (kk := ?_)
  refine aw_na2 .int (hw := wd_55) (kk := fun a12 σ13 => ?_)
  refine aw_pAF 9 5 29 (hw := wd_259) (kk := fun σ14 => ?_)
  refine aw_aload_n 0 (kk := ?_)
  refine aw_sipush 400 (v := 400) (kk := ?_)
  refine aw_na2 .int (hw := wd_55) (kk := fun a15 σ16 => ?_)
  refine aw_pAF 9 6 32 (hw := wd_260) (kk := fun σ17 => ?_)
  refine aw_aload_n 0 (kk := ?_)
  refine aw_ldc 35 (v := 65536) (hw := wd_253) (kk := ?_)
  refine aw_na2 .byte (hw := wd_54) (kk := fun a18 σ19 => ?_)
  refine aw_pAF 9 7 36 (hw := wd_261) (kk := fun σ20 => ?_)
  refine aw_aload_n 0 (kk := ?_)
  refine aw_aload_n 1 (kk := ?_)
  refine aw_pAF 9 0 40 (hw := wd_254) (kk := fun σ21 => ?_)
  exact aw_vret
def f_Oc_clear (F : Nat) (σ : am_S) (x0 : Nat) : Option (am_S) :=
  am_ck σ 9 x0 (
  (am_gA σ 9 1 x0).bind fun v1 =>
  (f_Pm_clear F σ v1).bind fun σ2 =>
  (am_pI σ2 9 8 x0 0).bind fun σ3 =>
  (am_pI σ3 9 9 x0 0).bind fun σ4 =>
  some σ4)
theorem rc_Oc_clear {F : Nat} {σ : am_S} {x0 : Nat} (h : (f_Oc_clear F σ x0).isSome = true) : ∃ fs, σ.2.2 x0 = some (.inr (9, fs)) := am_ck_some h
theorem m_Oc_clear (g : am_G) (F : Nat) (σ : am_S) (x0 : Nat) : am_Met g mx_Oc_clear [.ref x0] σ ((f_Oc_clear F σ x0).bind am_kV) := by
  refine am_Met.of (lv := [some (.ref x0)]) (am_cc rfl am_c0) (Nat.le_of_ble_eq_true rfl) rfl (by decide) ?_
  unfold f_Oc_clear
  refine am_W.ck ?_
  refine aw_aload_n 0 (kk := ?_)
  refine aw_gA 9 1 12 (hw := wd_255) (kk := fun v1 => ?_)
  refine ac_V (st := []) [.ref v1] (ag_V 79 4 rc_Pm_clear wd_779 cal_Pm_clear wd_780 wd_781) cal_Pm_clear ⟨by decide, by decide⟩ (Nat.le_of_ble_eq_true rfl) (m_Pm_clear g F σ v1) (fun σ2 => ?_)
  refine aw_aload_n 0 (kk := ?_)
  refine aw_iconst 0 (v := 0) (kk := ?_)
  refine aw_pI 9 8 82 (hw := wd_262) (kk := fun σ3 => ?_)
  refine aw_aload_n 0 (kk := ?_)
  refine aw_iconst 0 (v := 0) (kk := ?_)
  refine aw_pI 9 9 52 (hw := wd_263) (kk := fun σ4 => ?_)
  exact aw_vret
def f_Oc_open (F : Nat) (σ : am_S) (x0 : Nat) (x1 : Nat) (x2 : Int32) : Option (Int32 × am_S) :=
  am_ck σ 9 x0 (
  (am_gA σ 9 1 x0).bind fun v1 =>
  (f_Pm_size F σ v1).bind fun v2 =>
  (am_gA σ 9 1 x0).bind fun v3 =>
  am_b2 (f_Pm_addPathOf F σ v3 x1 x2 v2) fun v4 σ5 =>
  if v4 = 0 then
    some ((-1), σ5)
  else
    (am_gA σ5 9 2 x0).bind fun v6 =>
    (am_sZ σ5 v6 v2 0).bind fun σ7 =>
    (am_gA σ7 9 4 x0).bind fun v8 =>
    (am_sI σ7 v8 v2 (-1)).bind fun σ9 =>
    some (v2, σ9))
theorem rc_Oc_open {F : Nat} {σ : am_S} {x0 : Nat} {x1 : Nat} {x2 : Int32} (h : (f_Oc_open F σ x0 x1 x2).isSome = true) : ∃ fs, σ.2.2 x0 = some (.inr (9, fs)) := am_ck_some h
theorem m_Oc_open (g : am_G) (F : Nat) (σ : am_S) (x0 : Nat) (x1 : Nat) (x2 : Int32) : am_Met g mx_Oc_open [.ref x0, .ref x1, .int x2] σ ((f_Oc_open F σ x0 x1 x2).bind am_kI) := by
  refine am_Met.of (lv := [some (.ref x0), some (.ref x1), some (.int x2), none]) (am_cc rfl (am_cc rfl (am_cc rfl am_c0))) (Nat.le_of_ble_eq_true rfl) rfl (by decide) ?_
  unfold f_Oc_open
  refine am_W.ck ?_
  refine aw_aload_n 0 (kk := ?_)
  refine aw_gA 9 1 12 (hw := wd_255) (kk := fun v1 => ?_)
  refine ac_PI (st := []) [.ref v1] (ag_V 44 4 rc_Pm_size wd_371 cal_Pm_size wd_352 wd_353) cal_Pm_size ⟨by decide, by decide⟩ (Nat.le_of_ble_eq_true rfl) (m_Pm_size g F σ v1) (fun v2 => ?_)
  refine aw_istore_n 3 (kk := ?_)
  refine aw_aload_n 0 (kk := ?_)
  refine aw_gA 9 1 12 (hw := wd_255) (kk := fun v3 => ?_)
  refine aw_aload_n 1 (kk := ?_)
  refine aw_iload_n 2 (kk := ?_)
  refine aw_iload_n 3 (kk := ?_)
  refine ac_I (st := []) [.ref v3, .ref x1, .int x2, .int v2] (ag_V 85 4 rc_Pm_addPathOf wd_797 cal_Pm_addPathOf wd_798 wd_799) cal_Pm_addPathOf ⟨by decide, by decide⟩ (Nat.le_of_ble_eq_true rfl) (m_Pm_addPathOf g F σ v3 x1 x2 v2) (fun v4 σ5 => ?_)
  refine aw_if_ne 5 23 (kt := fun _ => ?_) (kf := fun _ => ?_)
  · refine aw_aload_n 0 (kk := ?_)
    refine aw_gA 9 2 18 (hw := wd_256) (kk := fun v6 => ?_)
    refine aw_iload_n 3 (kk := ?_)
    refine aw_iconst 0 (v := 0) (kk := ?_)
    refine aw_sZ (kk := fun σ7 => ?_)
    refine aw_aload_n 0 (kk := ?_)
    refine aw_gA 9 4 26 (hw := wd_258) (kk := fun v8 => ?_)
    refine aw_iload_n 3 (kk := ?_)
    refine aw_iconst (-1) (v := (-1)) (kk := ?_)
    refine aw_sI (kk := fun σ9 => ?_)
    refine aw_iload_n 3 (kk := ?_)
    exact aw_iret
  · refine aw_iconst (-1) (v := (-1)) (kk := ?_)
    exact aw_iret
def f_Oc_setSources (F : Nat) (σ : am_S) (x0 : Nat) (x1 : Int32) (x2 : Int32) (x3 : Int32) (x4 : Int32) : Option (am_S) :=
  am_ck σ 9 x0 (
  (am_gA σ 9 3 x0).bind fun v1 =>
  (am_sI σ v1 ((x1 * 3) + 0) x2).bind fun σ2 =>
  (am_gA σ2 9 3 x0).bind fun v3 =>
  (am_sI σ2 v3 ((x1 * 3) + 1) x3).bind fun σ4 =>
  (am_gA σ4 9 3 x0).bind fun v5 =>
  (am_sI σ4 v5 ((x1 * 3) + 2) x4).bind fun σ6 =>
  some σ6)
theorem rc_Oc_setSources {F : Nat} {σ : am_S} {x0 : Nat} {x1 : Int32} {x2 : Int32} {x3 : Int32} {x4 : Int32} (h : (f_Oc_setSources F σ x0 x1 x2 x3 x4).isSome = true) : ∃ fs, σ.2.2 x0 = some (.inr (9, fs)) := am_ck_some h
theorem m_Oc_setSources (g : am_G) (F : Nat) (σ : am_S) (x0 : Nat) (x1 : Int32) (x2 : Int32) (x3 : Int32) (x4 : Int32) : am_Met g mx_Oc_setSources [.ref x0, .int x1, .int x2, .int x3, .int x4] σ ((f_Oc_setSources F σ x0 x1 x2 x3 x4).bind am_kV) := by
  refine am_Met.of (lv := [some (.ref x0), some (.int x1), some (.int x2), some (.int x3), some (.int x4)]) (am_cc rfl (am_cc rfl (am_cc rfl (am_cc rfl (am_cc rfl am_c0))))) (Nat.le_of_ble_eq_true rfl) rfl (by decide) ?_
  unfold f_Oc_setSources
  refine am_W.ck ?_
  refine aw_aload_n 0 (kk := ?_)
  refine aw_gA 9 3 22 (hw := wd_257) (kk := fun v1 => ?_)
  refine aw_iload_n 1 (kk := ?_)
  refine aw_iconst 3 (v := 3) (kk := ?_)
  refine aw_imul (kk := ?_)
  refine aw_iconst 0 (v := 0) (kk := ?_)
  refine aw_iadd (kk := ?_)
  refine aw_iload_n 2 (kk := ?_)
  refine aw_sI (kk := fun σ2 => ?_)
  refine aw_aload_n 0 (kk := ?_)
  refine aw_gA 9 3 22 (hw := wd_257) (kk := fun v3 => ?_)
  refine aw_iload_n 1 (kk := ?_)
  refine aw_iconst 3 (v := 3) (kk := ?_)
  refine aw_imul (kk := ?_)
  refine aw_iconst 1 (v := 1) (kk := ?_)
  refine aw_iadd (kk := ?_)
  refine aw_iload_n 3 (kk := ?_)
  refine aw_sI (kk := fun σ4 => ?_)
  refine aw_aload_n 0 (kk := ?_)
  refine aw_gA 9 3 22 (hw := wd_257) (kk := fun v5 => ?_)
  refine aw_iload_n 1 (kk := ?_)
  refine aw_iconst 3 (v := 3) (kk := ?_)
  refine aw_imul (kk := ?_)
  refine aw_iconst 2 (v := 2) (kk := ?_)
  refine aw_iadd (kk := ?_)
  refine aw_iload 4 (kk := ?_)
  refine aw_sI (kk := fun σ6 => ?_)
  exact aw_vret
def f_Oc_setUnmerged (F : Nat) (σ : am_S) (x0 : Nat) (x1 : Int32) : Option (am_S) :=
  am_ck σ 9 x0 (
  (am_gA σ 9 2 x0).bind fun v1 =>
  (am_lI σ .boolean v1 x1).bind fun v2 =>
  if v2 = 0 then
    (am_gA σ 9 2 x0).bind fun v3 =>
    (am_sZ σ v3 x1 1).bind fun σ4 =>
    (am_gI σ4 9 9 x0).bind fun v5 =>
    (am_pI σ4 9 9 x0 (v5 + 1)).bind fun σ6 =>
    some σ6
  else
    some σ)
theorem rc_Oc_setUnmerged {F : Nat} {σ : am_S} {x0 : Nat} {x1 : Int32} (h : (f_Oc_setUnmerged F σ x0 x1).isSome = true) : ∃ fs, σ.2.2 x0 = some (.inr (9, fs)) := am_ck_some h
theorem m_Oc_setUnmerged (g : am_G) (F : Nat) (σ : am_S) (x0 : Nat) (x1 : Int32) : am_Met g mx_Oc_setUnmerged [.ref x0, .int x1] σ ((f_Oc_setUnmerged F σ x0 x1).bind am_kV) := by
  refine am_Met.of (lv := [some (.ref x0), some (.int x1)]) (am_cc rfl (am_cc rfl am_c0)) (Nat.le_of_ble_eq_true rfl) rfl (by decide) ?_
  unfold f_Oc_setUnmerged
  refine am_W.ck ?_
  refine aw_aload_n 0 (kk := ?_)
  refine aw_gA 9 2 18 (hw := wd_256) (kk := fun v1 => ?_)
  refine aw_iload_n 1 (kk := ?_)
  refine aw_lZ (kk := fun v2 => ?_)
  refine aw_if_ne 20 26 (kt := fun _ => ?_) (kf := fun _ => ?_)
  · exact aw_vret
  · refine aw_aload_n 0 (kk := ?_)
    refine aw_gA 9 2 18 (hw := wd_256) (kk := fun v3 => ?_)
    refine aw_iload_n 1 (kk := ?_)
    refine aw_iconst 1 (v := 1) (kk := ?_)
    refine aw_sZ (kk := fun σ4 => ?_)
    refine aw_aload_n 0 (kk := ?_)
    refine aw_dup (kk := ?_)
    refine aw_gI 9 9 52 (hw := wd_263) (kk := fun v5 => ?_)
    refine aw_iconst 1 (v := 1) (kk := ?_)
    refine aw_iadd (kk := ?_)
    refine aw_pI 9 9 52 (hw := wd_263) (kk := fun σ6 => ?_)
    exact aw_vret
def f_Oc_size (F : Nat) (σ : am_S) (x0 : Nat) : Option (Int32) :=
  am_ck σ 9 x0 (
  (am_gA σ 9 1 x0).bind fun v1 =>
  (f_Pm_size F σ v1).bind fun v2 =>
  some v2)
theorem rc_Oc_size {F : Nat} {σ : am_S} {x0 : Nat} (h : (f_Oc_size F σ x0).isSome = true) : ∃ fs, σ.2.2 x0 = some (.inr (9, fs)) := am_ck_some h
theorem m_Oc_size (g : am_G) (F : Nat) (σ : am_S) (x0 : Nat) : am_Met g mx_Oc_size [.ref x0] σ ((f_Oc_size F σ x0).bind (am_kPI σ)) := by
  refine am_Met.of (lv := [some (.ref x0)]) (am_cc rfl am_c0) (Nat.le_of_ble_eq_true rfl) rfl (by decide) ?_
  unfold f_Oc_size
  refine am_W.ck ?_
  refine aw_aload_n 0 (kk := ?_)
  refine aw_gA 9 1 12 (hw := wd_255) (kk := fun v1 => ?_)
  refine ac_PI (st := []) [.ref v1] (ag_V 44 4 rc_Pm_size wd_371 cal_Pm_size wd_352 wd_353) cal_Pm_size ⟨by decide, by decide⟩ (Nat.le_of_ble_eq_true rfl) (m_Pm_size g F σ v1) (fun v2 => ?_)
  exact aw_iretP
def f_Oc_sourceOf (F : Nat) (σ : am_S) (x0 : Nat) (x1 : Int32) (x2 : Int32) : Option (Int32) :=
  am_ck σ 9 x0 (
  (am_gA σ 9 3 x0).bind fun v1 =>
  (am_lI σ .int v1 ((x1 * 3) + x2)).bind fun v2 =>
  some v2)
theorem rc_Oc_sourceOf {F : Nat} {σ : am_S} {x0 : Nat} {x1 : Int32} {x2 : Int32} (h : (f_Oc_sourceOf F σ x0 x1 x2).isSome = true) : ∃ fs, σ.2.2 x0 = some (.inr (9, fs)) := am_ck_some h
theorem m_Oc_sourceOf (g : am_G) (F : Nat) (σ : am_S) (x0 : Nat) (x1 : Int32) (x2 : Int32) : am_Met g mx_Oc_sourceOf [.ref x0, .int x1, .int x2] σ ((f_Oc_sourceOf F σ x0 x1 x2).bind (am_kPI σ)) := by
  refine am_Met.of (lv := [some (.ref x0), some (.int x1), some (.int x2)]) (am_cc rfl (am_cc rfl (am_cc rfl am_c0))) (Nat.le_of_ble_eq_true rfl) rfl (by decide) ?_
  unfold f_Oc_sourceOf
  refine am_W.ck ?_
  refine aw_aload_n 0 (kk := ?_)
  refine aw_gA 9 3 22 (hw := wd_257) (kk := fun v1 => ?_)
  refine aw_iload_n 1 (kk := ?_)
  refine aw_iconst 3 (v := 3) (kk := ?_)
  refine aw_imul (kk := ?_)
  refine aw_iload_n 2 (kk := ?_)
  refine aw_iadd (kk := ?_)
  refine aw_lI (kk := fun v2 => ?_)
  exact aw_iretP
def f_Oc_setBlob (F : Nat) (σ : am_S) (x0 : Nat) (x1 : Int32) (x2 : Int32) : Option (am_S) :=
  am_ck σ 9 x0 (
  (am_gA σ 9 4 x0).bind fun v1 =>
  (am_sI σ v1 x1 x2).bind fun σ2 =>
  some σ2)
theorem rc_Oc_setBlob {F : Nat} {σ : am_S} {x0 : Nat} {x1 : Int32} {x2 : Int32} (h : (f_Oc_setBlob F σ x0 x1 x2).isSome = true) : ∃ fs, σ.2.2 x0 = some (.inr (9, fs)) := am_ck_some h
theorem m_Oc_setBlob (g : am_G) (F : Nat) (σ : am_S) (x0 : Nat) (x1 : Int32) (x2 : Int32) : am_Met g mx_Oc_setBlob [.ref x0, .int x1, .int x2] σ ((f_Oc_setBlob F σ x0 x1 x2).bind am_kV) := by
  refine am_Met.of (lv := [some (.ref x0), some (.int x1), some (.int x2)]) (am_cc rfl (am_cc rfl (am_cc rfl am_c0))) (Nat.le_of_ble_eq_true rfl) rfl (by decide) ?_
  unfold f_Oc_setBlob
  refine am_W.ck ?_
  refine aw_aload_n 0 (kk := ?_)
  refine aw_gA 9 4 26 (hw := wd_258) (kk := fun v1 => ?_)
  refine aw_iload_n 1 (kk := ?_)
  refine aw_iload_n 2 (kk := ?_)
  refine aw_sI (kk := fun σ2 => ?_)
  exact aw_vret
def f_Oc_recordIsUnmerged (F : Nat) (σ : am_S) (x0 : Nat) (x1 : Int32) : Option (Int32) :=
  am_ck σ 9 x0 (
  (am_gA σ 9 2 x0).bind fun v1 =>
  (am_lI σ .boolean v1 x1).bind fun v2 =>
  if v2 = 0 ∨ v2 = 1 then some v2 else none)
theorem rc_Oc_recordIsUnmerged {F : Nat} {σ : am_S} {x0 : Nat} {x1 : Int32} (h : (f_Oc_recordIsUnmerged F σ x0 x1).isSome = true) : ∃ fs, σ.2.2 x0 = some (.inr (9, fs)) := am_ck_some h
theorem m_Oc_recordIsUnmerged (g : am_G) (F : Nat) (σ : am_S) (x0 : Nat) (x1 : Int32) : am_Met g mx_Oc_recordIsUnmerged [.ref x0, .int x1] σ ((f_Oc_recordIsUnmerged F σ x0 x1).bind (am_kPI σ)) := by
  refine am_Met.of (lv := [some (.ref x0), some (.int x1)]) (am_cc rfl (am_cc rfl am_c0)) (Nat.le_of_ble_eq_true rfl) rfl (by decide) ?_
  unfold f_Oc_recordIsUnmerged
  refine am_W.ck ?_
  refine aw_aload_n 0 (kk := ?_)
  refine aw_gA 9 2 18 (hw := wd_256) (kk := fun v1 => ?_)
  refine aw_iload_n 1 (kk := ?_)
  refine aw_lZ (kk := fun v2 => ?_)
  exact aw_zretP
def f_Oc_keepText (F : Nat) (σ : am_S) (x0 : Nat) (x1 : Int32) (x2 : Nat) (x3 : Int32) : Option (Int32 × am_S) :=
  am_ck σ 9 x0 (
  (am_gI σ 9 8 x0).bind fun v1 =>
  if (v1 + x3) ≤ 65536 then
    (am_gA σ 9 7 x0).bind fun v2 =>
    (am_gI σ 9 8 x0).bind fun v3 =>
    (am_cp σ .byte x2 0 v2 v3 x3).bind fun σ4 =>
    (am_gA σ4 9 5 x0).bind fun v5 =>
    (am_gI σ4 9 8 x0).bind fun v6 =>
    (am_sI σ4 v5 x1 v6).bind fun σ7 =>
    (am_gA σ7 9 6 x0).bind fun v8 =>
    (am_sI σ7 v8 x1 x3).bind fun σ9 =>
    (am_gI σ9 9 8 x0).bind fun v10 =>
    (am_pI σ9 9 8 x0 (v10 + x3)).bind fun σ11 =>
    some (1, σ11)
  else
    some (0, σ))
theorem rc_Oc_keepText {F : Nat} {σ : am_S} {x0 : Nat} {x1 : Int32} {x2 : Nat} {x3 : Int32} (h : (f_Oc_keepText F σ x0 x1 x2 x3).isSome = true) : ∃ fs, σ.2.2 x0 = some (.inr (9, fs)) := am_ck_some h
theorem m_Oc_keepText (g : am_G) (F : Nat) (σ : am_S) (x0 : Nat) (x1 : Int32) (x2 : Nat) (x3 : Int32) : am_Met g mx_Oc_keepText [.ref x0, .int x1, .ref x2, .int x3] σ ((f_Oc_keepText F σ x0 x1 x2 x3).bind am_kI) := by
  refine am_Met.of (lv := [some (.ref x0), some (.int x1), some (.ref x2), some (.int x3)]) (am_cc rfl (am_cc rfl (am_cc rfl (am_cc rfl am_c0)))) (Nat.le_of_ble_eq_true rfl) rfl (by decide) ?_
  unfold f_Oc_keepText
  refine am_W.ck ?_
  refine aw_aload_n 0 (kk := ?_)
  refine aw_gI 9 8 82 (hw := wd_262) (kk := fun v1 => ?_)
  refine aw_iload_n 3 (kk := ?_)
  refine aw_iadd (kk := ?_)
  refine aw_ldc 35 (v := 65536) (hw := wd_253) (kk := ?_)
  refine aw_icmp_le 5 13 (kt := fun _ => ?_) (kf := fun _ => ?_)
  · refine aw_aload_n 2 (kk := ?_)
    refine aw_iconst 0 (v := 0) (kk := ?_)
    refine aw_aload_n 0 (kk := ?_)
    refine aw_gA 9 7 36 (hw := wd_261) (kk := fun v2 => ?_)
    refine aw_aload_n 0 (kk := ?_)
    refine aw_gI 9 8 82 (hw := wd_262) (kk := fun v3 => ?_)
    refine aw_iload_n 3 (kk := ?_)
    refine aw_cp 89 .byte (hw := wd_1003) (hw2 := wd_505) (hw3 := wd_504) (hw4 := wd_19) (hr := Nat.le_of_ble_eq_true rfl) (kk := fun σ4 => ?_)
    refine aw_aload_n 0 (kk := ?_)
    refine aw_gA 9 5 29 (hw := wd_259) (kk := fun v5 => ?_)
    refine aw_iload_n 1 (kk := ?_)
    refine aw_aload_n 0 (kk := ?_)
    refine aw_gI 9 8 82 (hw := wd_262) (kk := fun v6 => ?_)
    refine aw_sI (kk := fun σ7 => ?_)
    refine aw_aload_n 0 (kk := ?_)
    refine aw_gA 9 6 32 (hw := wd_260) (kk := fun v8 => ?_)
    refine aw_iload_n 1 (kk := ?_)
    refine aw_iload_n 3 (kk := ?_)
    refine aw_sI (kk := fun σ9 => ?_)
    refine aw_aload_n 0 (kk := ?_)
    refine aw_dup (kk := ?_)
    refine aw_gI 9 8 82 (hw := wd_262) (kk := fun v10 => ?_)
    refine aw_iload_n 3 (kk := ?_)
    refine aw_iadd (kk := ?_)
    refine aw_pI 9 8 82 (hw := wd_262) (kk := fun σ11 => ?_)
    refine aw_iconst 1 (v := 1) (kk := ?_)
    exact aw_zretL (by decide)
  · refine aw_iconst 0 (v := 0) (kk := ?_)
    exact aw_zretL (by decide)
def f_Oc_unmergedCount (F : Nat) (σ : am_S) (x0 : Nat) : Option (Int32) :=
  am_ck σ 9 x0 (
  (am_gI σ 9 9 x0).bind fun v1 =>
  some v1)
theorem rc_Oc_unmergedCount {F : Nat} {σ : am_S} {x0 : Nat} (h : (f_Oc_unmergedCount F σ x0).isSome = true) : ∃ fs, σ.2.2 x0 = some (.inr (9, fs)) := am_ck_some h
theorem m_Oc_unmergedCount (g : am_G) (F : Nat) (σ : am_S) (x0 : Nat) : am_Met g mx_Oc_unmergedCount [.ref x0] σ ((f_Oc_unmergedCount F σ x0).bind (am_kPI σ)) := by
  refine am_Met.of (lv := [some (.ref x0)]) (am_cc rfl am_c0) (Nat.le_of_ble_eq_true rfl) rfl (by decide) ?_
  unfold f_Oc_unmergedCount
  refine am_W.ck ?_
  refine aw_aload_n 0 (kk := ?_)
  refine aw_gI 9 9 52 (hw := wd_263) (kk := fun v1 => ?_)
  exact aw_iretP
def f_Oc_has (F : Nat) (σ : am_S) (x0 : Nat) (x1 : Int32) : Option (Int32) :=
  am_ck σ 9 x0 (
  (am_gA σ 9 1 x0).bind fun v1 =>
  (f_Pm_has F σ v1 x1).bind fun v2 =>
  if v2 = 0 ∨ v2 = 1 then some v2 else none)
theorem rc_Oc_has {F : Nat} {σ : am_S} {x0 : Nat} {x1 : Int32} (h : (f_Oc_has F σ x0 x1).isSome = true) : ∃ fs, σ.2.2 x0 = some (.inr (9, fs)) := am_ck_some h
theorem m_Oc_has (g : am_G) (F : Nat) (σ : am_S) (x0 : Nat) (x1 : Int32) : am_Met g mx_Oc_has [.ref x0, .int x1] σ ((f_Oc_has F σ x0 x1).bind (am_kPI σ)) := by
  refine am_Met.of (lv := [some (.ref x0), some (.int x1)]) (am_cc rfl (am_cc rfl am_c0)) (Nat.le_of_ble_eq_true rfl) rfl (by decide) ?_
  unfold f_Oc_has
  refine am_W.ck ?_
  refine aw_aload_n 0 (kk := ?_)
  refine aw_gA 9 1 12 (hw := wd_255) (kk := fun v1 => ?_)
  refine aw_iload_n 1 (kk := ?_)
  refine ac_PI (st := []) [.ref v1, .int x1] (ag_V 48 4 rc_Pm_has wd_1036 cal_Pm_has wd_1037 wd_1038) cal_Pm_has ⟨by decide, by decide⟩ (Nat.le_of_ble_eq_true rfl) (m_Pm_has g F σ v1 x1) (fun v2 => ?_)
  exact aw_zretP
def f_Oc_pathLength (F : Nat) (σ : am_S) (x0 : Nat) (x1 : Int32) : Option (Int32) :=
  am_ck σ 9 x0 (
  (am_gA σ 9 1 x0).bind fun v1 =>
  (f_Pm_lengthOf F σ v1 x1).bind fun v2 =>
  some v2)
theorem rc_Oc_pathLength {F : Nat} {σ : am_S} {x0 : Nat} {x1 : Int32} (h : (f_Oc_pathLength F σ x0 x1).isSome = true) : ∃ fs, σ.2.2 x0 = some (.inr (9, fs)) := am_ck_some h
theorem m_Oc_pathLength (g : am_G) (F : Nat) (σ : am_S) (x0 : Nat) (x1 : Int32) : am_Met g mx_Oc_pathLength [.ref x0, .int x1] σ ((f_Oc_pathLength F σ x0 x1).bind (am_kPI σ)) := by
  refine am_Met.of (lv := [some (.ref x0), some (.int x1)]) (am_cc rfl (am_cc rfl am_c0)) (Nat.le_of_ble_eq_true rfl) rfl (by decide) ?_
  unfold f_Oc_pathLength
  refine am_W.ck ?_
  refine aw_aload_n 0 (kk := ?_)
  refine aw_gA 9 1 12 (hw := wd_255) (kk := fun v1 => ?_)
  refine aw_iload_n 1 (kk := ?_)
  refine ac_PI (st := []) [.ref v1, .int x1] (ag_V 56 4 rc_Pm_lengthOf wd_1044 cal_Pm_lengthOf wd_558 wd_559) cal_Pm_lengthOf ⟨by decide, by decide⟩ (Nat.le_of_ble_eq_true rfl) (m_Pm_lengthOf g F σ v1 x1) (fun v2 => ?_)
  exact aw_iretP
def f_Oc_isUnmerged (F : Nat) (σ : am_S) (x0 : Nat) (x1 : Int32) : Option (Int32) :=
  am_ck σ 9 x0 (
  (am_gA σ 9 2 x0).bind fun v1 =>
  (am_gA σ 9 1 x0).bind fun v2 =>
  (f_Pm_valueAt F σ v2 x1).bind fun v3 =>
  (am_lI σ .boolean v1 v3).bind fun v4 =>
  if v4 = 0 ∨ v4 = 1 then some v4 else none)
theorem rc_Oc_isUnmerged {F : Nat} {σ : am_S} {x0 : Nat} {x1 : Int32} (h : (f_Oc_isUnmerged F σ x0 x1).isSome = true) : ∃ fs, σ.2.2 x0 = some (.inr (9, fs)) := am_ck_some h
theorem m_Oc_isUnmerged (g : am_G) (F : Nat) (σ : am_S) (x0 : Nat) (x1 : Int32) : am_Met g mx_Oc_isUnmerged [.ref x0, .int x1] σ ((f_Oc_isUnmerged F σ x0 x1).bind (am_kPI σ)) := by
  refine am_Met.of (lv := [some (.ref x0), some (.int x1)]) (am_cc rfl (am_cc rfl am_c0)) (Nat.le_of_ble_eq_true rfl) rfl (by decide) ?_
  unfold f_Oc_isUnmerged
  refine am_W.ck ?_
  refine aw_aload_n 0 (kk := ?_)
  refine aw_gA 9 2 18 (hw := wd_256) (kk := fun v1 => ?_)
  refine aw_aload_n 0 (kk := ?_)
  refine aw_gA 9 1 12 (hw := wd_255) (kk := fun v2 => ?_)
  refine aw_iload_n 1 (kk := ?_)
  refine ac_PI (st := [.ref v1]) [.ref v2, .int x1] (ag_V 64 4 rc_Pm_valueAt wd_1049 cal_Pm_valueAt wd_723 wd_724) cal_Pm_valueAt ⟨by decide, by decide⟩ (Nat.le_of_ble_eq_true rfl) (m_Pm_valueAt g F σ v2 x1) (fun v3 => ?_)
  refine aw_lZ (kk := fun v4 => ?_)
  exact aw_zretP
def f_Oc_textLength (F : Nat) (σ : am_S) (x0 : Nat) (x1 : Int32) : Option (Int32) :=
  am_ck σ 9 x0 (
  (am_gA σ 9 1 x0).bind fun v1 =>
  (f_Pm_valueAt F σ v1 x1).bind fun v2 =>
  (am_gA σ 9 4 x0).bind fun v3 =>
  (am_lI σ .int v3 v2).bind fun v4 =>
  if v4 < 0 then
    (am_gA σ 9 6 x0).bind fun v5 =>
    (am_lI σ .int v5 v2).bind fun v6 =>
    some v6
  else
    (am_gA σ 9 0 x0).bind fun v7 =>
    (am_gA σ 9 4 x0).bind fun v8 =>
    (am_lI σ .int v8 v2).bind fun v9 =>
    (f_Bl_lengthOf F σ v7 v9).bind fun v10 =>
    some v10)
theorem rc_Oc_textLength {F : Nat} {σ : am_S} {x0 : Nat} {x1 : Int32} (h : (f_Oc_textLength F σ x0 x1).isSome = true) : ∃ fs, σ.2.2 x0 = some (.inr (9, fs)) := am_ck_some h
theorem m_Oc_textLength (g : am_G) (F : Nat) (σ : am_S) (x0 : Nat) (x1 : Int32) : am_Met g mx_Oc_textLength [.ref x0, .int x1] σ ((f_Oc_textLength F σ x0 x1).bind (am_kPI σ)) := by
  refine am_Met.of (lv := [some (.ref x0), some (.int x1), none]) (am_cc rfl (am_cc rfl am_c0)) (Nat.le_of_ble_eq_true rfl) rfl (by decide) ?_
  unfold f_Oc_textLength
  refine am_W.ck ?_
  refine aw_aload_n 0 (kk := ?_)
  refine aw_gA 9 1 12 (hw := wd_255) (kk := fun v1 => ?_)
  refine aw_iload_n 1 (kk := ?_)
  refine ac_PI (st := []) [.ref v1, .int x1] (ag_V 64 4 rc_Pm_valueAt wd_1049 cal_Pm_valueAt wd_723 wd_724) cal_Pm_valueAt ⟨by decide, by decide⟩ (Nat.le_of_ble_eq_true rfl) (m_Pm_valueAt g F σ v1 x1) (fun v2 => ?_)
  refine aw_istore_n 2 (kk := ?_)
  refine aw_aload_n 0 (kk := ?_)
  refine aw_gA 9 4 26 (hw := wd_258) (kk := fun v3 => ?_)
  refine aw_iload_n 2 (kk := ?_)
  refine aw_lI (kk := fun v4 => ?_)
  refine aw_if_lt 19 34 (kt := fun _ => ?_) (kf := fun _ => ?_)
  · refine aw_aload_n 0 (kk := ?_)
    refine aw_gA 9 6 32 (hw := wd_260) (kk := fun v5 => ?_)
    refine aw_iload_n 2 (kk := ?_)
    refine aw_lI (kk := fun v6 => ?_)
    exact aw_iretP
  · refine aw_aload_n 0 (kk := ?_)
    refine aw_gA 9 0 40 (hw := wd_254) (kk := fun v7 => ?_)
    refine aw_aload_n 0 (kk := ?_)
    refine aw_gA 9 4 26 (hw := wd_258) (kk := fun v8 => ?_)
    refine aw_iload_n 2 (kk := ?_)
    refine aw_lI (kk := fun v9 => ?_)
    refine ac_PI (st := []) [.ref v7, .int v9] (ag_V 73 2 rc_Bl_lengthOf wd_1054 cal_Bl_lengthOf wd_593 wd_594) cal_Bl_lengthOf ⟨by decide, by decide⟩ (Nat.le_of_ble_eq_true rfl) (m_Bl_lengthOf g F σ v7 v9) (fun v10 => ?_)
    refine aw_goto 9 40 (kk := ?_)
    exact aw_iretP
def f_Oc_blobOf (F : Nat) (σ : am_S) (x0 : Nat) (x1 : Int32) : Option (Int32) :=
  am_ck σ 9 x0 (
  (am_gA σ 9 4 x0).bind fun v1 =>
  (am_gA σ 9 1 x0).bind fun v2 =>
  (f_Pm_valueAt F σ v2 x1).bind fun v3 =>
  (am_lI σ .int v1 v3).bind fun v4 =>
  some v4)
theorem rc_Oc_blobOf {F : Nat} {σ : am_S} {x0 : Nat} {x1 : Int32} (h : (f_Oc_blobOf F σ x0 x1).isSome = true) : ∃ fs, σ.2.2 x0 = some (.inr (9, fs)) := am_ck_some h
theorem m_Oc_blobOf (g : am_G) (F : Nat) (σ : am_S) (x0 : Nat) (x1 : Int32) : am_Met g mx_Oc_blobOf [.ref x0, .int x1] σ ((f_Oc_blobOf F σ x0 x1).bind (am_kPI σ)) := by
  refine am_Met.of (lv := [some (.ref x0), some (.int x1)]) (am_cc rfl (am_cc rfl am_c0)) (Nat.le_of_ble_eq_true rfl) rfl (by decide) ?_
  unfold f_Oc_blobOf
  refine am_W.ck ?_
  refine aw_aload_n 0 (kk := ?_)
  refine aw_gA 9 4 26 (hw := wd_258) (kk := fun v1 => ?_)
  refine aw_aload_n 0 (kk := ?_)
  refine aw_gA 9 1 12 (hw := wd_255) (kk := fun v2 => ?_)
  refine aw_iload_n 1 (kk := ?_)
  refine ac_PI (st := [.ref v1]) [.ref v2, .int x1] (ag_V 64 4 rc_Pm_valueAt wd_1049 cal_Pm_valueAt wd_723 wd_724) cal_Pm_valueAt ⟨by decide, by decide⟩ (Nat.le_of_ble_eq_true rfl) (m_Pm_valueAt g F σ v2 x1) (fun v3 => ?_)
  refine aw_lI (kk := fun v4 => ?_)
  exact aw_iretP
def f_Oc_stageOf (F : Nat) (σ : am_S) (x0 : Nat) (x1 : Int32) (x2 : Int32) : Option (Int32) :=
  am_ck σ 9 x0 (
  (f_Oc_isUnmerged F σ x0 x1).bind fun v1 =>
  if v1 = 0 then
    some (-1)
  else
    (am_gA σ 9 1 x0).bind fun v2 =>
    (f_Pm_valueAt F σ v2 x1).bind fun v3 =>
    (f_Oc_sourceOf F σ x0 v3 x2).bind fun v4 =>
    some v4)
theorem rc_Oc_stageOf {F : Nat} {σ : am_S} {x0 : Nat} {x1 : Int32} {x2 : Int32} (h : (f_Oc_stageOf F σ x0 x1 x2).isSome = true) : ∃ fs, σ.2.2 x0 = some (.inr (9, fs)) := am_ck_some h
theorem m_Oc_stageOf (g : am_G) (F : Nat) (σ : am_S) (x0 : Nat) (x1 : Int32) (x2 : Int32) : am_Met g mx_Oc_stageOf [.ref x0, .int x1, .int x2] σ ((f_Oc_stageOf F σ x0 x1 x2).bind (am_kPI σ)) := by
  refine am_Met.of (lv := [some (.ref x0), some (.int x1), some (.int x2)]) (am_cc rfl (am_cc rfl (am_cc rfl am_c0))) (Nat.le_of_ble_eq_true rfl) rfl (by decide) ?_
  unfold f_Oc_stageOf
  refine am_W.ck ?_
  refine aw_aload_n 0 (kk := ?_)
  refine aw_iload_n 1 (kk := ?_)
  refine ac_PI (st := []) [.ref x0, .int x1] (ag_V 67 9 rc_Oc_isUnmerged wd_1063 cal_Oc_isUnmerged wd_1046 wd_1047) cal_Oc_isUnmerged ⟨by decide, by decide⟩ (Nat.le_of_ble_eq_true rfl) (m_Oc_isUnmerged g F σ x0 x1) (fun v1 => ?_)
  refine aw_if_eq 19 24 (kt := fun _ => ?_) (kf := fun _ => ?_)
  · refine aw_iconst (-1) (v := (-1)) (kk := ?_)
    exact aw_iretP
  · refine aw_aload_n 0 (kk := ?_)
    refine aw_aload_n 0 (kk := ?_)
    refine aw_gA 9 1 12 (hw := wd_255) (kk := fun v2 => ?_)
    refine aw_iload_n 1 (kk := ?_)
    refine ac_PI (st := [.ref x0]) [.ref v2, .int x1] (ag_V 64 4 rc_Pm_valueAt wd_1049 cal_Pm_valueAt wd_723 wd_724) cal_Pm_valueAt ⟨by decide, by decide⟩ (Nat.le_of_ble_eq_true rfl) (m_Pm_valueAt g F σ v2 x1) (fun v3 => ?_)
    refine aw_iload_n 2 (kk := ?_)
    refine ac_PI (st := []) [.ref x0, .int v3, .int x2] (ag_V 70 9 rc_Oc_sourceOf wd_1064 cal_Oc_sourceOf wd_815 wd_816) cal_Oc_sourceOf ⟨by decide, by decide⟩ (Nat.le_of_ble_eq_true rfl) (m_Oc_sourceOf g F σ x0 v3 x2) (fun v4 => ?_)
    refine aw_goto 4 25 (kk := ?_)
    exact aw_iretP
def f_Oc_pathByte (F : Nat) (σ : am_S) (x0 : Nat) (x1 : Int32) (x2 : Int32) : Option (Int32) :=
  am_ck σ 9 x0 (
  (am_gA σ 9 1 x0).bind fun v1 =>
  (f_Pm_letterAt F σ v1 x1 x2).bind fun v2 =>
  some v2)
theorem rc_Oc_pathByte {F : Nat} {σ : am_S} {x0 : Nat} {x1 : Int32} {x2 : Int32} (h : (f_Oc_pathByte F σ x0 x1 x2).isSome = true) : ∃ fs, σ.2.2 x0 = some (.inr (9, fs)) := am_ck_some h
theorem m_Oc_pathByte (g : am_G) (F : Nat) (σ : am_S) (x0 : Nat) (x1 : Int32) (x2 : Int32) : am_Met g mx_Oc_pathByte [.ref x0, .int x1, .int x2] σ ((f_Oc_pathByte F σ x0 x1 x2).bind (am_kPI σ)) := by
  refine am_Met.of (lv := [some (.ref x0), some (.int x1), some (.int x2)]) (am_cc rfl (am_cc rfl (am_cc rfl am_c0))) (Nat.le_of_ble_eq_true rfl) rfl (by decide) ?_
  unfold f_Oc_pathByte
  refine am_W.ck ?_
  refine aw_aload_n 0 (kk := ?_)
  refine aw_gA 9 1 12 (hw := wd_255) (kk := fun v1 => ?_)
  refine aw_iload_n 1 (kk := ?_)
  refine aw_iload_n 2 (kk := ?_)
  refine ac_PI (st := []) [.ref v1, .int x1, .int x2] (ag_V 60 4 rc_Pm_letterAt wd_1076 cal_Pm_letterAt wd_568 wd_569) cal_Pm_letterAt ⟨by decide, by decide⟩ (Nat.le_of_ble_eq_true rfl) (m_Pm_letterAt g F σ v1 x1 x2) (fun v2 => ?_)
  exact aw_iretP
def f_Oc_textByte (F : Nat) (σ : am_S) (x0 : Nat) (x1 : Int32) (x2 : Int32) : Option (Int32) :=
  am_ck σ 9 x0 (
  (am_gA σ 9 1 x0).bind fun v1 =>
  (f_Pm_valueAt F σ v1 x1).bind fun v2 =>
  (am_gA σ 9 4 x0).bind fun v3 =>
  (am_lI σ .int v3 v2).bind fun v4 =>
  if v4 < 0 then
    (am_gA σ 9 7 x0).bind fun v5 =>
    (am_gA σ 9 5 x0).bind fun v6 =>
    (am_lI σ .int v6 v2).bind fun v7 =>
    (am_lI σ .byte v5 (v7 + x2)).bind fun v8 =>
    some (v8 &&& 255)
  else
    (am_gA σ 9 0 x0).bind fun v9 =>
    (am_gA σ 9 4 x0).bind fun v10 =>
    (am_lI σ .int v10 v2).bind fun v11 =>
    (f_Bl_byteAt F σ v9 v11 x2).bind fun v12 =>
    some v12)
theorem rc_Oc_textByte {F : Nat} {σ : am_S} {x0 : Nat} {x1 : Int32} {x2 : Int32} (h : (f_Oc_textByte F σ x0 x1 x2).isSome = true) : ∃ fs, σ.2.2 x0 = some (.inr (9, fs)) := am_ck_some h
theorem m_Oc_textByte (g : am_G) (F : Nat) (σ : am_S) (x0 : Nat) (x1 : Int32) (x2 : Int32) : am_Met g mx_Oc_textByte [.ref x0, .int x1, .int x2] σ ((f_Oc_textByte F σ x0 x1 x2).bind (am_kPI σ)) := by
  refine am_Met.of (lv := [some (.ref x0), some (.int x1), some (.int x2), none]) (am_cc rfl (am_cc rfl (am_cc rfl am_c0))) (Nat.le_of_ble_eq_true rfl) rfl (by decide) ?_
  unfold f_Oc_textByte
  refine am_W.ck ?_
  refine aw_aload_n 0 (kk := ?_)
  refine aw_gA 9 1 12 (hw := wd_255) (kk := fun v1 => ?_)
  refine aw_iload_n 1 (kk := ?_)
  refine ac_PI (st := []) [.ref v1, .int x1] (ag_V 64 4 rc_Pm_valueAt wd_1049 cal_Pm_valueAt wd_723 wd_724) cal_Pm_valueAt ⟨by decide, by decide⟩ (Nat.le_of_ble_eq_true rfl) (m_Pm_valueAt g F σ v1 x1) (fun v2 => ?_)
  refine aw_istore_n 3 (kk := ?_)
  refine aw_aload_n 0 (kk := ?_)
  refine aw_gA 9 4 26 (hw := wd_258) (kk := fun v3 => ?_)
  refine aw_iload_n 3 (kk := ?_)
  refine aw_lI (kk := fun v4 => ?_)
  refine aw_if_lt 18 33 (kt := fun _ => ?_) (kf := fun _ => ?_)
  · refine aw_aload_n 0 (kk := ?_)
    refine aw_gA 9 7 36 (hw := wd_261) (kk := fun v5 => ?_)
    refine aw_aload_n 0 (kk := ?_)
    refine aw_gA 9 5 29 (hw := wd_259) (kk := fun v6 => ?_)
    refine aw_iload_n 3 (kk := ?_)
    refine aw_lI (kk := fun v7 => ?_)
    refine aw_iload_n 2 (kk := ?_)
    refine aw_iadd (kk := ?_)
    refine aw_lB (kk := fun v8 => ?_)
    refine aw_sipush 255 (v := 255) (kk := ?_)
    refine aw_iand (kk := ?_)
    exact aw_iretP
  · refine aw_aload_n 0 (kk := ?_)
    refine aw_gA 9 0 40 (hw := wd_254) (kk := fun v9 => ?_)
    refine aw_aload_n 0 (kk := ?_)
    refine aw_gA 9 4 26 (hw := wd_258) (kk := fun v10 => ?_)
    refine aw_iload_n 3 (kk := ?_)
    refine aw_lI (kk := fun v11 => ?_)
    refine aw_iload_n 2 (kk := ?_)
    refine ac_PI (st := []) [.ref v9, .int v11, .int x2] (ag_V 76 2 rc_Bl_byteAt wd_1081 cal_Bl_byteAt wd_1082 wd_1083) cal_Bl_byteAt ⟨by decide, by decide⟩ (Nat.le_of_ble_eq_true rfl) (m_Bl_byteAt g F σ v9 v11 x2) (fun v12 => ?_)
    exact aw_iretP
