/-! ===== printed by wip/gen ===== -/
def f_Md_in (F : Nat) (σ : am_S) (x0 : Int32) (x1 : Int32) (x2 : Int32) : Option (Int32) :=
  if x0 < x1 then
    some 0
  else
    if x2 < x0 then
      some 0
    else
      some 1
theorem m_Md_in (g : am_G) (F : Nat) (σ : am_S) (x0 : Int32) (x1 : Int32) (x2 : Int32) : am_Met g mx_Md_in [.int x0, .int x1, .int x2] σ ((f_Md_in F σ x0 x1 x2).bind (am_kPI σ)) := by
  refine am_Met.of (lv := [some (.int x0), some (.int x1), some (.int x2)]) (am_cc rfl (am_cc rfl (am_cc rfl am_c0))) (Nat.le_of_ble_eq_true rfl) rfl (by decide) ?_
  unfold f_Md_in
  refine aw_iload_n 0 (kk := ?_)
  refine aw_iload_n 1 (kk := ?_)
  refine aw_icmp_lt 12 14 (kt := fun _ => ?_) (kf := fun _ => ?_)
  · refine aw_iconst 0 (v := 0) (kk := ?_)
    exact aw_zretPL (by decide)
  · refine aw_iload_n 0 (kk := ?_)
    refine aw_iload_n 2 (kk := ?_)
    refine aw_icmp_gt 7 14 (kt := fun _ => ?_) (kf := fun _ => ?_)
    · refine aw_iconst 0 (v := 0) (kk := ?_)
      exact aw_zretPL (by decide)
    · refine aw_iconst 1 (v := 1) (kk := ?_)
      refine aw_goto 4 15 (kk := ?_)
      exact aw_zretPL (by decide)
def f_Md_allow (F : Nat) (σ : am_S) (x0 : Int32) : Option ((Nat ⊕ Unit) × am_S) :=
  if x0 = 0 then
    some (.inl 1, σ)
  else
    some (.inr (), σ)
theorem m_Md_allow (g : am_G) (F : Nat) (σ : am_S) (x0 : Int32) : am_Met g mx_Md_allow [.int x0] σ ((f_Md_allow F σ x0).bind am_kTV) := by
  refine am_Met.of (lv := [some (.int x0)]) (am_cc rfl am_c0) (Nat.le_of_ble_eq_true rfl) rfl (by decide) ?_
  unfold f_Md_allow
  refine aw_iload_n 0 (kk := ?_)
  refine aw_if_ne 7 8 (kt := fun _ => ?_) (kf := fun _ => ?_)
  · exact aw_vretT
  · refine aw_refused 1 (hw := wd_1470) (kk := ?_)
    refine aw_throw (kk := ?_)
    exact at_outV
def f_Md_samea_l15 (σ : am_S) (F : Nat) (x0 : Nat) (x1 : Nat) (x2 : Int32)  : Nat → Int32 → Option (Int32)
  | 0, _ => none
  | n + 1, x4 =>
    (am_gI σ 12 1 x0).bind fun v2 =>
    if v2 ≤ x4 then
      some 1
    else
      (am_gA σ 12 0 x0).bind fun v3 =>
      (am_lI σ .byte v3 x4).bind fun v4 =>
      (am_gA σ 12 0 x1).bind fun v5 =>
      (am_lI σ .byte v5 (x2 + x4)).bind fun v6 =>
      if v4 = v6 then
        f_Md_samea_l15 σ F x0 x1 x2 n (x4 + 1)
      else
        some 0
theorem b_Md_samea_l15 {g : am_G} {σ0 σ : am_S} (F : Nat) (x0 : Nat) (x1 : Nat) (x2 : Int32)   : ∀ (n : Nat) (x4 : Int32), am_W g mx_Md_samea σ0 15 [some (.ref x0), some (.ref x1), some (.int x2), none, some (.int x4)] [] σ (f_Md_samea_l15 σ F x0 x1 x2 n x4) (am_kPI σ) := by
  intro n
  induction n with
  | zero =>
    intro x4
    rw [f_Md_samea_l15]
    exact am_W.none
  | succ n ih =>
    intro x4
    rw [f_Md_samea_l15]
    refine aw_iload 4 (kk := ?_)
    refine aw_aload_n 0 (kk := ?_)
    refine aw_gI 12 1 7 (hw := wd_1116) (kk := fun v2 => ?_)
    refine aw_icmp_ge 30 51 (kt := fun _ => ?_) (kf := fun _ => ?_)
    · refine aw_iconst 1 (v := 1) (kk := ?_)
      exact aw_zretPL (by decide)
    · refine aw_aload_n 0 (kk := ?_)
      refine aw_gA 12 0 13 (hw := wd_1114) (kk := fun v3 => ?_)
      refine aw_iload 4 (kk := ?_)
      refine aw_lB (kk := fun v4 => ?_)
      refine aw_aload_n 1 (kk := ?_)
      refine aw_gA 12 0 13 (hw := wd_1114) (kk := fun v5 => ?_)
      refine aw_iload_n 2 (kk := ?_)
      refine aw_iload 4 (kk := ?_)
      refine aw_iadd (kk := ?_)
      refine aw_lB (kk := fun v6 => ?_)
      refine aw_icmp_eq 5 45 (kt := fun _ => ?_) (kf := fun _ => ?_)
      · refine aw_iinc 4 1 (v := 1) (kk := ?_)
        refine aw_goto (-33) 15 (kk := ?_)
        exact am_W.drop [true, true, true, false, true] (ih (x4 + 1))
      · refine aw_iconst 0 (v := 0) (kk := ?_)
        exact aw_zretPL (by decide)
def f_Md_samea (F : Nat) (σ : am_S) (x0 : Nat) (x1 : Nat) (x2 : Int32) (x3 : Int32) : Option (Int32) :=
  (am_gI σ 12 1 x0).bind fun v1 =>
  if v1 = (x3 - x2) then
    f_Md_samea_l15 σ F x0 x1 x2 F 0
  else
    some 0
theorem m_Md_samea (g : am_G) (F : Nat) (σ : am_S) (x0 : Nat) (x1 : Nat) (x2 : Int32) (x3 : Int32) : am_Met g mx_Md_samea [.ref x0, .ref x1, .int x2, .int x3] σ ((f_Md_samea F σ x0 x1 x2 x3).bind (am_kPI σ)) := by
  refine am_Met.of (lv := [some (.ref x0), some (.ref x1), some (.int x2), some (.int x3), none]) (am_cc rfl (am_cc rfl (am_cc rfl (am_cc rfl am_c0)))) (Nat.le_of_ble_eq_true rfl) rfl (by decide) ?_
  unfold f_Md_samea
  refine aw_aload_n 0 (kk := ?_)
  refine aw_gI 12 1 7 (hw := wd_1116) (kk := fun v1 => ?_)
  refine aw_iload_n 3 (kk := ?_)
  refine aw_iload_n 2 (kk := ?_)
  refine aw_isub (kk := ?_)
  refine aw_icmp_eq 5 12 (kt := fun _ => ?_) (kf := fun _ => ?_)
  · refine aw_iconst 0 (v := 0) (kk := ?_)
    refine aw_istore 4 (kk := ?_)
    exact am_W.drop [true, true, true, false, true] (b_Md_samea_l15 F x0 x1 x2 F 0)
  · refine aw_iconst 0 (v := 0) (kk := ?_)
    exact aw_zretPL (by decide)
def f_Md_blobOf_l2 (σ : am_S) (F : Nat) (x0 : Nat) (x1 : Nat)  : Nat → Int32 → Option (Int32)
  | 0, _ => none
  | n + 1, x2 =>
    (am_gI σ 10 4 x0).bind fun v1 =>
    if v1 ≤ x2 then
      some (-1)
    else
      (am_gA σ 10 2 x0).bind fun v2 =>
      (am_gA σ 10 3 x0).bind fun v3 =>
      (am_lI σ .int v3 x2).bind fun v4 =>
      (am_gA σ 10 3 x0).bind fun v5 =>
      (am_lI σ .int v5 (x2 + 1)).bind fun v6 =>
      (f_Md_samea F σ x1 v2 v4 v6).bind fun v7 =>
      if v7 = 0 then
        f_Md_blobOf_l2 σ F x0 x1 n (x2 + 1)
      else
        some x2
theorem b_Md_blobOf_l2 {g : am_G} {σ0 σ : am_S} (F : Nat) (x0 : Nat) (x1 : Nat)   : ∀ (n : Nat) (x2 : Int32), am_W g mx_Md_blobOf σ0 2 [some (.ref x0), some (.ref x1), some (.int x2)] [] σ (f_Md_blobOf_l2 σ F x0 x1 n x2) (am_kPI σ) := by
  intro n
  induction n with
  | zero =>
    intro x2
    rw [f_Md_blobOf_l2]
    exact am_W.none
  | succ n ih =>
    intro x2
    rw [f_Md_blobOf_l2]
    refine aw_iload_n 2 (kk := ?_)
    refine aw_aload_n 0 (kk := ?_)
    refine aw_gI 10 4 17 (hw := wd_1159) (kk := fun v1 => ?_)
    refine aw_icmp_ge 36 43 (kt := fun _ => ?_) (kf := fun _ => ?_)
    · refine aw_iconst (-1) (v := (-1)) (kk := ?_)
      exact aw_iretP
    · refine aw_aload_n 1 (kk := ?_)
      refine aw_aload_n 0 (kk := ?_)
      refine aw_gA 10 2 20 (hw := wd_1157) (kk := fun v2 => ?_)
      refine aw_aload_n 0 (kk := ?_)
      refine aw_gA 10 3 24 (hw := wd_1158) (kk := fun v3 => ?_)
      refine aw_iload_n 2 (kk := ?_)
      refine aw_lI (kk := fun v4 => ?_)
      refine aw_aload_n 0 (kk := ?_)
      refine aw_gA 10 3 24 (hw := wd_1158) (kk := fun v5 => ?_)
      refine aw_iload_n 2 (kk := ?_)
      refine aw_iconst 1 (v := 1) (kk := ?_)
      refine aw_iadd (kk := ?_)
      refine aw_lI (kk := fun v6 => ?_)
      refine ac_PI (st := []) [.ref x1, .ref v2, .int v4, .int v6] (ag_S 28 wd_1346 cal_Md_samea wd_1347) cal_Md_samea ⟨by decide, by decide⟩ (Nat.le_of_ble_eq_true rfl) (m_Md_samea g F σ x1 v2 v4 v6) (fun v7 => ?_)
      refine aw_if_eq 5 37 (kt := fun _ => ?_) (kf := fun _ => ?_)
      · refine aw_iinc 2 1 (v := 1) (kk := ?_)
        refine aw_goto (-38) 2 (kk := ?_)
        exact am_W.drop [true, true, true] (ih (x2 + 1))
      · refine aw_iload_n 2 (kk := ?_)
        exact aw_iretP
def f_Md_blobOf (F : Nat) (σ : am_S) (x0 : Nat) (x1 : Nat) : Option (Int32) :=
  am_ck σ 10 x0 (
  f_Md_blobOf_l2 σ F x0 x1 F 0)
theorem rc_Md_blobOf {F : Nat} {σ : am_S} {x0 : Nat} {x1 : Nat} (h : (f_Md_blobOf F σ x0 x1).isSome = true) : ∃ fs, σ.2.2 x0 = some (.inr (10, fs)) := am_ck_some h
theorem m_Md_blobOf (g : am_G) (F : Nat) (σ : am_S) (x0 : Nat) (x1 : Nat) : am_Met g mx_Md_blobOf [.ref x0, .ref x1] σ ((f_Md_blobOf F σ x0 x1).bind (am_kPI σ)) := by
  refine am_Met.of (lv := [some (.ref x0), some (.ref x1), none]) (am_cc rfl (am_cc rfl am_c0)) (Nat.le_of_ble_eq_true rfl) rfl (by decide) ?_
  unfold f_Md_blobOf
  refine am_W.ck ?_
  refine aw_iconst 0 (v := 0) (kk := ?_)
  refine aw_istore_n 2 (kk := ?_)
  exact am_W.drop [true, true, true] (b_Md_blobOf_l2 F x0 x1 F 0)
def f_Md_cut_j74 (F : Nat) (x0 : Nat) (x1 : Int32) (x3 : Int32) (x4 : Int32) (k30 : Int32 → Int32 → am_S → Option (am_S)) (σ : am_S) : Option (am_S) :=
  if x3 = 200 then
    some σ
  else
    (am_gA σ 10 9 x0).bind fun v12 =>
    (am_sI σ v12 ((202 * x1) + (x3 + 1)) (x4 + 1)).bind fun σ13 =>
    k30 (x3 + 1) (x4 + 1) σ13
theorem b_Md_cut_j74 {g : am_G} {σ0 : am_S} (F : Nat) (x0 : Nat) (x1 : Int32) (x2 : Nat) (x3 : Int32) (x4 : Int32) (k30 : Int32 → Int32 → am_S → Option (am_S)) (h30 : ∀ (y3 : Int32) (y4 : Int32)  (τ : am_S), am_W g mx_Md_cut σ0 30 [some (.ref x0), some (.int x1), some (.ref x2), some (.int y3), some (.int y4)] [] τ (k30 y3 y4 τ) am_kV) (σ : am_S) : am_W g mx_Md_cut σ0 74 [some (.ref x0), some (.int x1), some (.ref x2), some (.int x3), some (.int x4)] [] σ (f_Md_cut_j74 F x0 x1 x3 x4 k30 σ) am_kV := by
  unfold f_Md_cut_j74
  refine aw_iload_n 3 (kk := ?_)
  refine aw_sipush 200 (v := 200) (kk := ?_)
  refine aw_icmp_ne 4 82 (kt := fun _ => ?_) (kf := fun _ => ?_)
  · refine aw_iinc 3 1 (v := 1) (kk := ?_)
    refine aw_aload_n 0 (kk := ?_)
    refine aw_gA 10 9 36 (hw := wd_1164) (kk := fun v12 => ?_)
    refine aw_sipush 202 (v := 202) (kk := ?_)
    refine aw_iload_n 1 (kk := ?_)
    refine aw_imul (kk := ?_)
    refine aw_iload_n 3 (kk := ?_)
    refine aw_iadd (kk := ?_)
    refine aw_iload 4 (kk := ?_)
    refine aw_iconst 1 (v := 1) (kk := ?_)
    refine aw_iadd (kk := ?_)
    refine aw_sI (kk := fun σ13 => ?_)
    refine aw_iinc 4 1 (v := 1) (kk := ?_)
    refine aw_goto (-74) 30 (kk := ?_)
    exact am_W.drop [true, true, true, true, true] (h30 (x3 + 1) (x4 + 1) σ13)
  · exact aw_vret
def f_Md_cut_l30 (F : Nat) (x0 : Nat) (x1 : Int32) (x2 : Nat)  : Nat → Int32 → Int32 → am_S → Option (am_S)
  | 0, _, _, _ => none
  | n + 1, x3, x4, σ =>
    (am_gI σ 12 1 x2).bind fun v7 =>
    if v7 ≤ x4 then
      (am_gA σ 10 11 x0).bind fun v8 =>
      (am_sI σ v8 x1 x3).bind fun σ9 =>
      some σ9
    else
      (f_Ro_get F σ x2 x4).bind fun v10 =>
      if v10 = 0 then
        some σ
      else
        (f_Ro_get F σ x2 x4).bind fun v11 =>
        if v11 = 10 then
          f_Md_cut_j74 F x0 x1 x3 x4 (fun y3 y4 τ => f_Md_cut_l30 F x0 x1 x2 n y3 y4 τ) σ
        else
          (am_gI σ 12 1 x2).bind fun v14 =>
          if (v14 - 1) ≤ x4 then
            f_Md_cut_j74 F x0 x1 x3 x4 (fun y3 y4 τ => f_Md_cut_l30 F x0 x1 x2 n y3 y4 τ) σ
          else
            f_Md_cut_l30 F x0 x1 x2 n x3 (x4 + 1) σ
theorem b_Md_cut_l30 {g : am_G} {σ0 : am_S} (F : Nat) (x0 : Nat) (x1 : Int32) (x2 : Nat)   : ∀ (n : Nat) (x3 : Int32) (x4 : Int32) (σ : am_S), am_W g mx_Md_cut σ0 30 [some (.ref x0), some (.int x1), some (.ref x2), some (.int x3), some (.int x4)] [] σ (f_Md_cut_l30 F x0 x1 x2 n x3 x4 σ) am_kV := by
  intro n
  induction n with
  | zero =>
    intro x3 x4 σ
    rw [f_Md_cut_l30]
    exact am_W.none
  | succ n ih =>
    intro x3 x4 σ
    rw [f_Md_cut_l30]
    refine aw_iload 4 (kk := ?_)
    refine aw_aload_n 2 (kk := ?_)
    refine aw_gI 12 1 7 (hw := wd_1116) (kk := fun v7 => ?_)
    refine aw_icmp_ge 71 107 (kt := fun _ => ?_) (kf := fun _ => ?_)
    · refine aw_aload_n 0 (kk := ?_)
      refine aw_gA 10 11 39 (hw := wd_1166) (kk := fun v8 => ?_)
      refine aw_iload_n 1 (kk := ?_)
      refine aw_iload_n 3 (kk := ?_)
      refine aw_sI (kk := fun σ9 => ?_)
      exact aw_vret
    · refine aw_aload_n 2 (kk := ?_)
      refine aw_iload 4 (kk := ?_)
      refine ac_PI (st := []) [.ref x2, .int x4] (ag_V 42 12 rc_Ro_get wd_1335 cal_Ro_get wd_1336 wd_1337) cal_Ro_get ⟨by decide, by decide⟩ (Nat.le_of_ble_eq_true rfl) (m_Ro_get g F σ x2 x4) (fun v10 => ?_)
      refine aw_if_ne 4 49 (kt := fun _ => ?_) (kf := fun _ => ?_)
      · refine aw_aload_n 2 (kk := ?_)
        refine aw_iload 4 (kk := ?_)
        refine ac_PI (st := []) [.ref x2, .int x4] (ag_V 42 12 rc_Ro_get wd_1335 cal_Ro_get wd_1336 wd_1337) cal_Ro_get ⟨by decide, by decide⟩ (Nat.le_of_ble_eq_true rfl) (m_Ro_get g F σ x2 x4) (fun v11 => ?_)
        refine aw_bipush 10 (v := 10) (kk := ?_)
        refine aw_icmp_eq 17 74 (kt := fun _ => ?_) (kf := fun _ => ?_)
        · exact am_W.drop [true, true, true, true, true] (b_Md_cut_j74 F x0 x1 x2 x3 x4 (fun y3 y4 τ => f_Md_cut_l30 F x0 x1 x2 n y3 y4 τ) (fun y3 y4 τ => am_W.drop [true, true, true, true, true] (ih y3 y4 τ)) σ)
        · refine aw_iload 4 (kk := ?_)
          refine aw_aload_n 2 (kk := ?_)
          refine aw_gI 12 1 7 (hw := wd_1116) (kk := fun v14 => ?_)
          refine aw_iconst 1 (v := 1) (kk := ?_)
          refine aw_isub (kk := ?_)
          refine aw_icmp_ge 6 74 (kt := fun _ => ?_) (kf := fun _ => ?_)
          · exact am_W.drop [true, true, true, true, true] (b_Md_cut_j74 F x0 x1 x2 x3 x4 (fun y3 y4 τ => f_Md_cut_l30 F x0 x1 x2 n y3 y4 τ) (fun y3 y4 τ => am_W.drop [true, true, true, true, true] (ih y3 y4 τ)) σ)
          · refine aw_goto 30 101 (kk := ?_)
            refine aw_iinc 4 1 (v := 1) (kk := ?_)
            refine aw_goto (-74) 30 (kk := ?_)
            exact am_W.drop [true, true, true, true, true] (ih x3 (x4 + 1) σ)
      · exact aw_vret
def f_Md_cut (F : Nat) (σ : am_S) (x0 : Nat) (x1 : Int32) : Option (am_S) :=
  am_ck σ 10 x0 (
  (am_gA σ 10 8 x0).bind fun v1 =>
  (am_lA σ 12 v1 x1).bind fun v2 =>
  (am_gA σ 10 9 x0).bind fun v3 =>
  (am_sI σ v3 (202 * x1) 0).bind fun σ4 =>
  (am_gA σ4 10 11 x0).bind fun v5 =>
  (am_sI σ4 v5 x1 (-1)).bind fun σ6 =>
  f_Md_cut_l30 F x0 x1 v2 F 0 0 σ6)
theorem rc_Md_cut {F : Nat} {σ : am_S} {x0 : Nat} {x1 : Int32} (h : (f_Md_cut F σ x0 x1).isSome = true) : ∃ fs, σ.2.2 x0 = some (.inr (10, fs)) := am_ck_some h
theorem m_Md_cut (g : am_G) (F : Nat) (σ : am_S) (x0 : Nat) (x1 : Int32) : am_Met g mx_Md_cut [.ref x0, .int x1] σ ((f_Md_cut F σ x0 x1).bind am_kV) := by
  refine am_Met.of (lv := [some (.ref x0), some (.int x1), none, none, none]) (am_cc rfl (am_cc rfl am_c0)) (Nat.le_of_ble_eq_true rfl) rfl (by decide) ?_
  unfold f_Md_cut
  refine am_W.ck ?_
  refine aw_aload_n 0 (kk := ?_)
  refine aw_gA 10 8 32 (hw := wd_1163) (kk := fun v1 => ?_)
  refine aw_iload_n 1 (kk := ?_)
  refine aw_lA 12 (kk := fun v2 => ?_)
  refine aw_astore_n 2 (kk := ?_)
  refine aw_iconst 0 (v := 0) (kk := ?_)
  refine aw_istore_n 3 (kk := ?_)
  refine aw_aload_n 0 (kk := ?_)
  refine aw_gA 10 9 36 (hw := wd_1164) (kk := fun v3 => ?_)
  refine aw_sipush 202 (v := 202) (kk := ?_)
  refine aw_iload_n 1 (kk := ?_)
  refine aw_imul (kk := ?_)
  refine aw_iconst 0 (v := 0) (kk := ?_)
  refine aw_sI (kk := fun σ4 => ?_)
  refine aw_aload_n 0 (kk := ?_)
  refine aw_gA 10 11 39 (hw := wd_1166) (kk := fun v5 => ?_)
  refine aw_iload_n 1 (kk := ?_)
  refine aw_iconst (-1) (v := (-1)) (kk := ?_)
  refine aw_sI (kk := fun σ6 => ?_)
  refine aw_iconst 0 (v := 0) (kk := ?_)
  refine aw_istore 4 (kk := ?_)
  exact am_W.drop [true, true, true, true, true] (b_Md_cut_l30 F x0 x1 v2 F 0 0 σ6)
def f_Md_start (F : Nat) (σ : am_S) (x0 : Nat) (x1 : Int32) (x2 : Int32) : Option (Int32) :=
  am_ck σ 10 x0 (
  (am_gA σ 10 9 x0).bind fun v1 =>
  (am_lI σ .int v1 ((202 * x1) + x2)).bind fun v2 =>
  some v2)
theorem rc_Md_start {F : Nat} {σ : am_S} {x0 : Nat} {x1 : Int32} {x2 : Int32} (h : (f_Md_start F σ x0 x1 x2).isSome = true) : ∃ fs, σ.2.2 x0 = some (.inr (10, fs)) := am_ck_some h
theorem m_Md_start (g : am_G) (F : Nat) (σ : am_S) (x0 : Nat) (x1 : Int32) (x2 : Int32) : am_Met g mx_Md_start [.ref x0, .int x1, .int x2] σ ((f_Md_start F σ x0 x1 x2).bind (am_kPI σ)) := by
  refine am_Met.of (lv := [some (.ref x0), some (.int x1), some (.int x2)]) (am_cc rfl (am_cc rfl (am_cc rfl am_c0))) (Nat.le_of_ble_eq_true rfl) rfl (by decide) ?_
  unfold f_Md_start
  refine am_W.ck ?_
  refine aw_aload_n 0 (kk := ?_)
  refine aw_gA 10 9 36 (hw := wd_1164) (kk := fun v1 => ?_)
  refine aw_sipush 202 (v := 202) (kk := ?_)
  refine aw_iload_n 1 (kk := ?_)
  refine aw_imul (kk := ?_)
  refine aw_iload_n 2 (kk := ?_)
  refine aw_iadd (kk := ?_)
  refine aw_lI (kk := fun v2 => ?_)
  exact aw_iretP
def f_Md_sameb_l16 (σ : am_S) (F : Nat) (x0 : Nat) (x1 : Int32) (x2 : Int32) (x3 : Nat) (x4 : Int32)  : Nat → Int32 → Option (Int32)
  | 0, _ => none
  | n + 1, x6 =>
    if (x2 - x1) ≤ x6 then
      some 1
    else
      (am_gA σ 12 0 x0).bind fun v1 =>
      (am_lI σ .byte v1 (x1 + x6)).bind fun v2 =>
      (am_gA σ 12 0 x3).bind fun v3 =>
      (am_lI σ .byte v3 (x4 + x6)).bind fun v4 =>
      if v2 = v4 then
        f_Md_sameb_l16 σ F x0 x1 x2 x3 x4 n (x6 + 1)
      else
        some 0
theorem b_Md_sameb_l16 {g : am_G} {σ0 σ : am_S} (F : Nat) (x0 : Nat) (x1 : Int32) (x2 : Int32) (x3 : Nat) (x4 : Int32)   : ∀ (n : Nat) (x6 : Int32), am_W g mx_Md_sameb σ0 16 [some (.ref x0), some (.int x1), some (.int x2), some (.ref x3), some (.int x4), none, some (.int x6)] [] σ (f_Md_sameb_l16 σ F x0 x1 x2 x3 x4 n x6) (am_kPI σ) := by
  intro n
  induction n with
  | zero =>
    intro x6
    rw [f_Md_sameb_l16]
    exact am_W.none
  | succ n ih =>
    intro x6
    rw [f_Md_sameb_l16]
    refine aw_iload 6 (kk := ?_)
    refine aw_iload_n 2 (kk := ?_)
    refine aw_iload_n 1 (kk := ?_)
    refine aw_isub (kk := ?_)
    refine aw_icmp_ge 33 54 (kt := fun _ => ?_) (kf := fun _ => ?_)
    · refine aw_iconst 1 (v := 1) (kk := ?_)
      exact aw_zretPL (by decide)
    · refine aw_aload_n 0 (kk := ?_)
      refine aw_gA 12 0 13 (hw := wd_1114) (kk := fun v1 => ?_)
      refine aw_iload_n 1 (kk := ?_)
      refine aw_iload 6 (kk := ?_)
      refine aw_iadd (kk := ?_)
      refine aw_lB (kk := fun v2 => ?_)
      refine aw_aload_n 3 (kk := ?_)
      refine aw_gA 12 0 13 (hw := wd_1114) (kk := fun v3 => ?_)
      refine aw_iload 4 (kk := ?_)
      refine aw_iload 6 (kk := ?_)
      refine aw_iadd (kk := ?_)
      refine aw_lB (kk := fun v4 => ?_)
      refine aw_icmp_eq 5 48 (kt := fun _ => ?_) (kf := fun _ => ?_)
      · refine aw_iinc 6 1 (v := 1) (kk := ?_)
        refine aw_goto (-35) 16 (kk := ?_)
        exact am_W.drop [true, true, true, true, true, false, true] (ih (x6 + 1))
      · refine aw_iconst 0 (v := 0) (kk := ?_)
        exact aw_zretPL (by decide)
def f_Md_sameb (F : Nat) (σ : am_S) (x0 : Nat) (x1 : Int32) (x2 : Int32) (x3 : Nat) (x4 : Int32) (x5 : Int32) : Option (Int32) :=
  if (x2 - x1) = (x5 - x4) then
    f_Md_sameb_l16 σ F x0 x1 x2 x3 x4 F 0
  else
    some 0
theorem m_Md_sameb (g : am_G) (F : Nat) (σ : am_S) (x0 : Nat) (x1 : Int32) (x2 : Int32) (x3 : Nat) (x4 : Int32) (x5 : Int32) : am_Met g mx_Md_sameb [.ref x0, .int x1, .int x2, .ref x3, .int x4, .int x5] σ ((f_Md_sameb F σ x0 x1 x2 x3 x4 x5).bind (am_kPI σ)) := by
  refine am_Met.of (lv := [some (.ref x0), some (.int x1), some (.int x2), some (.ref x3), some (.int x4), some (.int x5), none]) (am_cc rfl (am_cc rfl (am_cc rfl (am_cc rfl (am_cc rfl (am_cc rfl am_c0)))))) (Nat.le_of_ble_eq_true rfl) rfl (by decide) ?_
  unfold f_Md_sameb
  refine aw_iload_n 2 (kk := ?_)
  refine aw_iload_n 1 (kk := ?_)
  refine aw_isub (kk := ?_)
  refine aw_iload 5 (kk := ?_)
  refine aw_iload 4 (kk := ?_)
  refine aw_isub (kk := ?_)
  refine aw_icmp_eq 5 13 (kt := fun _ => ?_) (kf := fun _ => ?_)
  · refine aw_iconst 0 (v := 0) (kk := ?_)
    refine aw_istore 6 (kk := ?_)
    exact am_W.drop [true, true, true, true, true, false, true] (b_Md_sameb_l16 F x0 x1 x2 x3 x4 F 0)
  · refine aw_iconst 0 (v := 0) (kk := ?_)
    exact aw_zretPL (by decide)
def f_Md_sameLine (F : Nat) (σ : am_S) (x0 : Nat) (x1 : Int32) (x2 : Int32) (x3 : Int32) (x4 : Int32) : Option (Int32) :=
  am_ck σ 10 x0 (
  (am_gA σ 10 8 x0).bind fun v1 =>
  (am_lA σ 12 v1 x1).bind fun v2 =>
  (f_Md_start F σ x0 x1 x2).bind fun v3 =>
  (f_Md_start F σ x0 x1 (x2 + 1)).bind fun v4 =>
  (am_gA σ 10 8 x0).bind fun v5 =>
  (am_lA σ 12 v5 x3).bind fun v6 =>
  (f_Md_start F σ x0 x3 x4).bind fun v7 =>
  (f_Md_start F σ x0 x3 (x4 + 1)).bind fun v8 =>
  (f_Md_sameb F σ v2 v3 v4 v6 v7 v8).bind fun v9 =>
  if v9 = 0 ∨ v9 = 1 then some v9 else none)
theorem rc_Md_sameLine {F : Nat} {σ : am_S} {x0 : Nat} {x1 : Int32} {x2 : Int32} {x3 : Int32} {x4 : Int32} (h : (f_Md_sameLine F σ x0 x1 x2 x3 x4).isSome = true) : ∃ fs, σ.2.2 x0 = some (.inr (10, fs)) := am_ck_some h
theorem m_Md_sameLine (g : am_G) (F : Nat) (σ : am_S) (x0 : Nat) (x1 : Int32) (x2 : Int32) (x3 : Int32) (x4 : Int32) : am_Met g mx_Md_sameLine [.ref x0, .int x1, .int x2, .int x3, .int x4] σ ((f_Md_sameLine F σ x0 x1 x2 x3 x4).bind (am_kPI σ)) := by
  refine am_Met.of (lv := [some (.ref x0), some (.int x1), some (.int x2), some (.int x3), some (.int x4)]) (am_cc rfl (am_cc rfl (am_cc rfl (am_cc rfl (am_cc rfl am_c0))))) (Nat.le_of_ble_eq_true rfl) rfl (by decide) ?_
  unfold f_Md_sameLine
  refine am_W.ck ?_
  refine aw_aload_n 0 (kk := ?_)
  refine aw_gA 10 8 32 (hw := wd_1163) (kk := fun v1 => ?_)
  refine aw_iload_n 1 (kk := ?_)
  refine aw_lA 12 (kk := fun v2 => ?_)
  refine aw_aload_n 0 (kk := ?_)
  refine aw_iload_n 1 (kk := ?_)
  refine aw_iload_n 2 (kk := ?_)
  refine ac_PI (st := [.ref v2]) [.ref x0, .int x1, .int x2] (ag_V 46 10 rc_Md_start wd_1447 cal_Md_start wd_1449 ws_54) cal_Md_start ⟨by decide, by decide⟩ (Nat.le_of_ble_eq_true rfl) (m_Md_start g F σ x0 x1 x2) (fun v3 => ?_)
  refine aw_aload_n 0 (kk := ?_)
  refine aw_iload_n 1 (kk := ?_)
  refine aw_iload_n 2 (kk := ?_)
  refine aw_iconst 1 (v := 1) (kk := ?_)
  refine aw_iadd (kk := ?_)
  refine ac_PI (st := [.int v3, .ref v2]) [.ref x0, .int x1, .int (x2 + 1)] (ag_V 46 10 rc_Md_start wd_1447 cal_Md_start wd_1449 ws_54) cal_Md_start ⟨by decide, by decide⟩ (Nat.le_of_ble_eq_true rfl) (m_Md_start g F σ x0 x1 (x2 + 1)) (fun v4 => ?_)
  refine aw_aload_n 0 (kk := ?_)
  refine aw_gA 10 8 32 (hw := wd_1163) (kk := fun v5 => ?_)
  refine aw_iload_n 3 (kk := ?_)
  refine aw_lA 12 (kk := fun v6 => ?_)
  refine aw_aload_n 0 (kk := ?_)
  refine aw_iload_n 3 (kk := ?_)
  refine aw_iload 4 (kk := ?_)
  refine ac_PI (st := [.ref v6, .int v4, .int v3, .ref v2]) [.ref x0, .int x3, .int x4] (ag_V 46 10 rc_Md_start wd_1447 cal_Md_start wd_1449 ws_54) cal_Md_start ⟨by decide, by decide⟩ (Nat.le_of_ble_eq_true rfl) (m_Md_start g F σ x0 x3 x4) (fun v7 => ?_)
  refine aw_aload_n 0 (kk := ?_)
  refine aw_iload_n 3 (kk := ?_)
  refine aw_iload 4 (kk := ?_)
  refine aw_iconst 1 (v := 1) (kk := ?_)
  refine aw_iadd (kk := ?_)
  refine ac_PI (st := [.int v7, .ref v6, .int v4, .int v3, .ref v2]) [.ref x0, .int x3, .int (x4 + 1)] (ag_V 46 10 rc_Md_start wd_1447 cal_Md_start wd_1449 ws_54) cal_Md_start ⟨by decide, by decide⟩ (Nat.le_of_ble_eq_true rfl) (m_Md_start g F σ x0 x3 (x4 + 1)) (fun v8 => ?_)
  refine ac_PI (st := []) [.ref v2, .int v3, .int v4, .ref v6, .int v7, .int v8] (ag_S 50 wd_1451 cal_Md_sameb wd_1452) cal_Md_sameb ⟨by decide, by decide⟩ (Nat.le_of_ble_eq_true rfl) (m_Md_sameb g F σ v2 v3 v4 v6 v7 v8) (fun v9 => ?_)
  exact aw_zretP
def f_Md_sort_l39 (F : Nat) (x0 : Nat) (x2 : Int32) (x3 : Int32) (x5 : Int32) (k86 : Int32 → am_S → Option (am_S)) : Nat → Int32 → Int32 → am_S → Option (am_S)
  | 0, _, _, _ => none
  | n + 1, x4, x6, σ =>
    (am_gA σ 10 11 x0).bind fun v3 =>
    (am_lI σ .int v3 x5).bind fun v4 =>
    if v4 ≤ x6 then
      k86 x4 σ
    else
      if 0 ≤ x4 then
        k86 x4 σ
      else
        (f_Md_sameLine F σ x0 x2 x3 x5 x6).bind fun v5 =>
        if v5 = 0 then
          f_Md_sort_l39 F x0 x2 x3 x5 k86 n x4 (x6 + 1) σ
        else
          f_Md_sort_l39 F x0 x2 x3 x5 k86 n ((x5 * 200) + x6) (x6 + 1) σ
theorem b_Md_sort_l39 {g : am_G} {σ0 : am_S} (F : Nat) (x0 : Nat) (x1 : Int32) (x2 : Int32) (x3 : Int32) (x5 : Int32) (k86 : Int32 → am_S → Option (am_S)) (h86 : ∀ (y4 : Int32)  (τ : am_S), am_W g mx_Md_sort σ0 86 [some (.ref x0), some (.int x1), some (.int x2), some (.int x3), some (.int y4), some (.int x5), none] [] τ (k86 y4 τ) am_kV) : ∀ (n : Nat) (x4 : Int32) (x6 : Int32) (σ : am_S), am_W g mx_Md_sort σ0 39 [some (.ref x0), some (.int x1), some (.int x2), some (.int x3), some (.int x4), some (.int x5), some (.int x6)] [] σ (f_Md_sort_l39 F x0 x2 x3 x5 k86 n x4 x6 σ) am_kV := by
  intro n
  induction n with
  | zero =>
    intro x4 x6 σ
    rw [f_Md_sort_l39]
    exact am_W.none
  | succ n ih =>
    intro x4 x6 σ
    rw [f_Md_sort_l39]
    refine aw_iload 6 (kk := ?_)
    refine aw_aload_n 0 (kk := ?_)
    refine aw_gA 10 11 39 (hw := wd_1166) (kk := fun v3 => ?_)
    refine aw_iload 5 (kk := ?_)
    refine aw_lI (kk := fun v4 => ?_)
    refine aw_icmp_ge 38 86 (kt := fun _ => ?_) (kf := fun _ => ?_)
    · exact am_W.drop [true, true, true, true, true, true, false] (h86 x4 σ)
    · refine aw_iload 4 (kk := ?_)
      refine aw_if_ge 33 86 (kt := fun _ => ?_) (kf := fun _ => ?_)
      · exact am_W.drop [true, true, true, true, true, true, false] (h86 x4 σ)
      · refine aw_aload_n 0 (kk := ?_)
        refine aw_iload_n 2 (kk := ?_)
        refine aw_iload_n 3 (kk := ?_)
        refine aw_iload 5 (kk := ?_)
        refine aw_iload 6 (kk := ?_)
        refine ac_PI (st := []) [.ref x0, .int x2, .int x3, .int x5, .int x6] (ag_V 53 10 rc_Md_sameLine wd_1443 cal_Md_sameLine wd_1445 ws_53) cal_Md_sameLine ⟨by decide, by decide⟩ (Nat.le_of_ble_eq_true rfl) (m_Md_sameLine g F σ x0 x2 x3 x5 x6) (fun v5 => ?_)
        refine aw_if_eq 14 80 (kt := fun _ => ?_) (kf := fun _ => ?_)
        · refine aw_iinc 6 1 (v := 1) (kk := ?_)
          refine aw_goto (-44) 39 (kk := ?_)
          exact am_W.drop [true, true, true, true, true, true, true] (ih x4 (x6 + 1) σ)
        · refine aw_iload 5 (kk := ?_)
          refine aw_sipush 200 (v := 200) (kk := ?_)
          refine aw_imul (kk := ?_)
          refine aw_iload 6 (kk := ?_)
          refine aw_iadd (kk := ?_)
          refine aw_istore 4 (kk := ?_)
          refine aw_iinc 6 1 (v := 1) (kk := ?_)
          refine aw_goto (-44) 39 (kk := ?_)
          exact am_W.drop [true, true, true, true, true, true, true] (ih ((x5 * 200) + x6) (x6 + 1) σ)
def f_Md_sort_j86 (F : Nat) (x4 : Int32) (x5 : Int32) (k25 : Int32 → Int32 → am_S → Option (am_S)) (σ : am_S) : Option (am_S) :=
  k25 x4 (x5 + 1) σ
theorem b_Md_sort_j86 {g : am_G} {σ0 : am_S} (F : Nat) (x0 : Nat) (x1 : Int32) (x2 : Int32) (x3 : Int32) (x4 : Int32) (x5 : Int32) (k25 : Int32 → Int32 → am_S → Option (am_S)) (h25 : ∀ (y4 : Int32) (y5 : Int32)  (τ : am_S), am_W g mx_Md_sort σ0 25 [some (.ref x0), some (.int x1), some (.int x2), some (.int x3), some (.int y4), some (.int y5), none] [] τ (k25 y4 y5 τ) am_kV) (σ : am_S) : am_W g mx_Md_sort σ0 86 [some (.ref x0), some (.int x1), some (.int x2), some (.int x3), some (.int x4), some (.int x5), none] [] σ (f_Md_sort_j86 F x4 x5 k25 σ) am_kV := by
  unfold f_Md_sort_j86
  refine aw_iinc 5 1 (v := 1) (kk := ?_)
  refine aw_goto (-64) 25 (kk := ?_)
  exact am_W.drop [true, true, true, true, true, true, false] (h25 x4 (x5 + 1) σ)
def f_Md_sort_l25 (F : Nat) (x0 : Nat) (x1 : Int32) (x2 : Int32) (x3 : Int32) (k92 : Int32 → am_S → Option (am_S)) : Nat → Int32 → Int32 → am_S → Option (am_S)
  | 0, _, _, _ => none
  | n + 1, x4, x5, σ =>
    if x1 ≤ x5 then
      k92 x4 σ
    else
      if 0 ≤ x4 then
        k92 x4 σ
      else
        f_Md_sort_l39 F x0 x2 x3 x5 (fun y4 τ => f_Md_sort_j86 F y4 x5 (fun y4 y5 τ => f_Md_sort_l25 F x0 x1 x2 x3 k92 n y4 y5 τ) τ) F x4 0 σ
theorem b_Md_sort_l25 {g : am_G} {σ0 : am_S} (F : Nat) (x0 : Nat) (x1 : Int32) (x2 : Int32) (x3 : Int32) (k92 : Int32 → am_S → Option (am_S)) (h92 : ∀ (y4 : Int32)  (τ : am_S), am_W g mx_Md_sort σ0 92 [some (.ref x0), some (.int x1), some (.int x2), some (.int x3), some (.int y4), none, none] [] τ (k92 y4 τ) am_kV) : ∀ (n : Nat) (x4 : Int32) (x5 : Int32) (σ : am_S), am_W g mx_Md_sort σ0 25 [some (.ref x0), some (.int x1), some (.int x2), some (.int x3), some (.int x4), some (.int x5), none] [] σ (f_Md_sort_l25 F x0 x1 x2 x3 k92 n x4 x5 σ) am_kV := by
  intro n
  induction n with
  | zero =>
    intro x4 x5 σ
    rw [f_Md_sort_l25]
    exact am_W.none
  | succ n ih =>
    intro x4 x5 σ
    rw [f_Md_sort_l25]
    refine aw_iload 5 (kk := ?_)
    refine aw_iload_n 1 (kk := ?_)
    refine aw_icmp_ge 64 92 (kt := fun _ => ?_) (kf := fun _ => ?_)
    · exact am_W.drop [true, true, true, true, true, false, false] (h92 x4 σ)
    · refine aw_iload 4 (kk := ?_)
      refine aw_if_ge 59 92 (kt := fun _ => ?_) (kf := fun _ => ?_)
      · exact am_W.drop [true, true, true, true, true, false, false] (h92 x4 σ)
      · refine aw_iconst 0 (v := 0) (kk := ?_)
        refine aw_istore 6 (kk := ?_)
        exact am_W.drop [true, true, true, true, true, true, true] (b_Md_sort_l39 F x0 x1 x2 x3 x5 (fun y4 τ => f_Md_sort_j86 F y4 x5 (fun y4 y5 τ => f_Md_sort_l25 F x0 x1 x2 x3 k92 n y4 y5 τ) τ) (fun y4 τ => am_W.drop [true, true, true, true, true, true, false] (b_Md_sort_j86 F x0 x1 x2 x3 y4 x5 (fun y4 y5 τ => f_Md_sort_l25 F x0 x1 x2 x3 k92 n y4 y5 τ) (fun y4 y5 τ => am_W.drop [true, true, true, true, true, true, false] (ih y4 y5 τ)) τ)) F x4 0 σ)
def f_Md_sort_j92 (F : Nat) (x0 : Nat) (x2 : Int32) (x3 : Int32) (x4 : Int32) (k9 : Int32 → am_S → Option (am_S)) (σ : am_S) : Option (am_S) :=
  (am_gA σ 10 10 x0).bind fun v6 =>
  (am_sI σ v6 ((x2 * 200) + x3) x4).bind fun σ7 =>
  k9 (x3 + 1) σ7
theorem b_Md_sort_j92 {g : am_G} {σ0 : am_S} (F : Nat) (x0 : Nat) (x1 : Int32) (x2 : Int32) (x3 : Int32) (x4 : Int32) (k9 : Int32 → am_S → Option (am_S)) (h9 : ∀ (y3 : Int32)  (τ : am_S), am_W g mx_Md_sort σ0 9 [some (.ref x0), some (.int x1), some (.int x2), some (.int y3), none, none, none] [] τ (k9 y3 τ) am_kV) (σ : am_S) : am_W g mx_Md_sort σ0 92 [some (.ref x0), some (.int x1), some (.int x2), some (.int x3), some (.int x4), none, none] [] σ (f_Md_sort_j92 F x0 x2 x3 x4 k9 σ) am_kV := by
  unfold f_Md_sort_j92
  refine aw_aload_n 0 (kk := ?_)
  refine aw_gA 10 10 57 (hw := wd_1165) (kk := fun v6 => ?_)
  refine aw_iload_n 2 (kk := ?_)
  refine aw_sipush 200 (v := 200) (kk := ?_)
  refine aw_imul (kk := ?_)
  refine aw_iload_n 3 (kk := ?_)
  refine aw_iadd (kk := ?_)
  refine aw_iload 4 (kk := ?_)
  refine aw_sI (kk := fun σ7 => ?_)
  refine aw_iinc 3 1 (v := 1) (kk := ?_)
  refine aw_goto (-100) 9 (kk := ?_)
  exact am_W.drop [true, true, true, true, false, false, false] (h9 (x3 + 1) σ7)
def f_Md_sort_l9 (F : Nat) (x0 : Nat) (x1 : Int32) (x2 : Int32) (k112 : am_S → Option (am_S)) : Nat → Int32 → am_S → Option (am_S)
  | 0, _, _ => none
  | n + 1, x3, σ =>
    (am_gA σ 10 11 x0).bind fun v1 =>
    (am_lI σ .int v1 x2).bind fun v2 =>
    if v2 ≤ x3 then
      k112 σ
    else
      f_Md_sort_l25 F x0 x1 x2 x3 (fun y4 τ => f_Md_sort_j92 F x0 x2 x3 y4 (fun y3 τ => f_Md_sort_l9 F x0 x1 x2 k112 n y3 τ) τ) F (-1) 0 σ
theorem b_Md_sort_l9 {g : am_G} {σ0 : am_S} (F : Nat) (x0 : Nat) (x1 : Int32) (x2 : Int32) (k112 : am_S → Option (am_S)) (h112 : ∀ (τ : am_S), am_W g mx_Md_sort σ0 112 [some (.ref x0), some (.int x1), some (.int x2), none, none, none, none] [] τ (k112 τ) am_kV) : ∀ (n : Nat) (x3 : Int32) (σ : am_S), am_W g mx_Md_sort σ0 9 [some (.ref x0), some (.int x1), some (.int x2), some (.int x3), none, none, none] [] σ (f_Md_sort_l9 F x0 x1 x2 k112 n x3 σ) am_kV := by
  intro n
  induction n with
  | zero =>
    intro x3 σ
    rw [f_Md_sort_l9]
    exact am_W.none
  | succ n ih =>
    intro x3 σ
    rw [f_Md_sort_l9]
    refine aw_iload_n 3 (kk := ?_)
    refine aw_aload_n 0 (kk := ?_)
    refine aw_gA 10 11 39 (hw := wd_1166) (kk := fun v1 => ?_)
    refine aw_iload_n 2 (kk := ?_)
    refine aw_lI (kk := fun v2 => ?_)
    refine aw_icmp_ge 96 112 (kt := fun _ => ?_) (kf := fun _ => ?_)
    · exact am_W.drop [true, true, true, false, false, false, false] (h112 σ)
    · refine aw_iconst (-1) (v := (-1)) (kk := ?_)
      refine aw_istore 4 (kk := ?_)
      refine aw_iconst 0 (v := 0) (kk := ?_)
      refine aw_istore 5 (kk := ?_)
      exact am_W.drop [true, true, true, true, true, true, false] (b_Md_sort_l25 F x0 x1 x2 x3 (fun y4 τ => f_Md_sort_j92 F x0 x2 x3 y4 (fun y3 τ => f_Md_sort_l9 F x0 x1 x2 k112 n y3 τ) τ) (fun y4 τ => am_W.drop [true, true, true, true, true, false, false] (b_Md_sort_j92 F x0 x1 x2 x3 y4 (fun y3 τ => f_Md_sort_l9 F x0 x1 x2 k112 n y3 τ) (fun y3 τ => am_W.drop [true, true, true, true, false, false, false] (ih y3 τ)) τ)) F (-1) 0 σ)
def f_Md_sort_j112 (F : Nat) (x2 : Int32) (k2 : Int32 → am_S → Option (am_S)) (σ : am_S) : Option (am_S) :=
  k2 (x2 + 1) σ
theorem b_Md_sort_j112 {g : am_G} {σ0 : am_S} (F : Nat) (x0 : Nat) (x1 : Int32) (x2 : Int32) (k2 : Int32 → am_S → Option (am_S)) (h2 : ∀ (y2 : Int32)  (τ : am_S), am_W g mx_Md_sort σ0 2 [some (.ref x0), some (.int x1), some (.int y2), none, none, none, none] [] τ (k2 y2 τ) am_kV) (σ : am_S) : am_W g mx_Md_sort σ0 112 [some (.ref x0), some (.int x1), some (.int x2), none, none, none, none] [] σ (f_Md_sort_j112 F x2 k2 σ) am_kV := by
  unfold f_Md_sort_j112
  refine aw_iinc 2 1 (v := 1) (kk := ?_)
  refine aw_goto (-113) 2 (kk := ?_)
  exact am_W.drop [true, true, true, false, false, false, false] (h2 (x2 + 1) σ)
def f_Md_sort_l2 (F : Nat) (x0 : Nat) (x1 : Int32)  : Nat → Int32 → am_S → Option (am_S)
  | 0, _, _ => none
  | n + 1, x2, σ =>
    if x1 ≤ x2 then
      some σ
    else
      f_Md_sort_l9 F x0 x1 x2 (fun τ => f_Md_sort_j112 F x2 (fun y2 τ => f_Md_sort_l2 F x0 x1 n y2 τ) τ) F 0 σ
theorem b_Md_sort_l2 {g : am_G} {σ0 : am_S} (F : Nat) (x0 : Nat) (x1 : Int32)   : ∀ (n : Nat) (x2 : Int32) (σ : am_S), am_W g mx_Md_sort σ0 2 [some (.ref x0), some (.int x1), some (.int x2), none, none, none, none] [] σ (f_Md_sort_l2 F x0 x1 n x2 σ) am_kV := by
  intro n
  induction n with
  | zero =>
    intro x2 σ
    rw [f_Md_sort_l2]
    exact am_W.none
  | succ n ih =>
    intro x2 σ
    rw [f_Md_sort_l2]
    refine aw_iload_n 2 (kk := ?_)
    refine aw_iload_n 1 (kk := ?_)
    refine aw_icmp_ge 114 118 (kt := fun _ => ?_) (kf := fun _ => ?_)
    · exact aw_vret
    · refine aw_iconst 0 (v := 0) (kk := ?_)
      refine aw_istore_n 3 (kk := ?_)
      exact am_W.drop [true, true, true, true, false, false, false] (b_Md_sort_l9 F x0 x1 x2 (fun τ => f_Md_sort_j112 F x2 (fun y2 τ => f_Md_sort_l2 F x0 x1 n y2 τ) τ) (fun τ => am_W.drop [true, true, true, false, false, false, false] (b_Md_sort_j112 F x0 x1 x2 (fun y2 τ => f_Md_sort_l2 F x0 x1 n y2 τ) (fun y2 τ => am_W.drop [true, true, true, false, false, false, false] (ih y2 τ)) τ)) F 0 σ)
def f_Md_sort (F : Nat) (σ : am_S) (x0 : Nat) (x1 : Int32) : Option (am_S) :=
  am_ck σ 10 x0 (
  f_Md_sort_l2 F x0 x1 F 0 σ)
theorem rc_Md_sort {F : Nat} {σ : am_S} {x0 : Nat} {x1 : Int32} (h : (f_Md_sort F σ x0 x1).isSome = true) : ∃ fs, σ.2.2 x0 = some (.inr (10, fs)) := am_ck_some h
theorem m_Md_sort (g : am_G) (F : Nat) (σ : am_S) (x0 : Nat) (x1 : Int32) : am_Met g mx_Md_sort [.ref x0, .int x1] σ ((f_Md_sort F σ x0 x1).bind am_kV) := by
  refine am_Met.of (lv := [some (.ref x0), some (.int x1), none, none, none, none, none]) (am_cc rfl (am_cc rfl am_c0)) (Nat.le_of_ble_eq_true rfl) rfl (by decide) ?_
  unfold f_Md_sort
  refine am_W.ck ?_
  refine aw_iconst 0 (v := 0) (kk := ?_)
  refine aw_istore_n 2 (kk := ?_)
  exact am_W.drop [true, true, true, false, false, false, false] (b_Md_sort_l2 F x0 x1 F 0 σ)
def f_Md_common_l3 (F : Nat) (x0 : Nat) (x3 : Int32) (k28 : am_S → Option (Int32 × am_S)) : Nat → Int32 → am_S → Option (Int32 × am_S)
  | 0, _, _ => none
  | n + 1, x5, σ =>
    (am_gA σ 10 11 x0).bind fun v1 =>
    (am_lI σ .int v1 x3).bind fun v2 =>
    if v2 < x5 then
      k28 σ
    else
      (am_gA σ 10 14 x0).bind fun v3 =>
      (am_sI σ v3 x5 0).bind fun σ4 =>
      f_Md_common_l3 F x0 x3 k28 n (x5 + 1) σ4
theorem b_Md_common_l3 {g : am_G} {σ0 : am_S} (F : Nat) (x0 : Nat) (x1 : Int32) (x2 : Int32) (x3 : Int32) (x4 : Int32) (k28 : am_S → Option (Int32 × am_S)) (h28 : ∀ (τ : am_S), am_W g mx_Md_common σ0 28 [some (.ref x0), some (.int x1), some (.int x2), some (.int x3), some (.int x4), none, none] [] τ (k28 τ) am_kI) : ∀ (n : Nat) (x5 : Int32) (σ : am_S), am_W g mx_Md_common σ0 3 [some (.ref x0), some (.int x1), some (.int x2), some (.int x3), some (.int x4), some (.int x5), none] [] σ (f_Md_common_l3 F x0 x3 k28 n x5 σ) am_kI := by
  intro n
  induction n with
  | zero =>
    intro x5 σ
    rw [f_Md_common_l3]
    exact am_W.none
  | succ n ih =>
    intro x5 σ
    rw [f_Md_common_l3]
    refine aw_iload 5 (kk := ?_)
    refine aw_aload_n 0 (kk := ?_)
    refine aw_gA 10 11 39 (hw := wd_1166) (kk := fun v1 => ?_)
    refine aw_iload_n 3 (kk := ?_)
    refine aw_lI (kk := fun v2 => ?_)
    refine aw_icmp_gt 17 28 (kt := fun _ => ?_) (kf := fun _ => ?_)
    · exact am_W.drop [true, true, true, true, true, false, false] (h28 σ)
    · refine aw_aload_n 0 (kk := ?_)
      refine aw_gA 10 14 60 (hw := wd_1169) (kk := fun v3 => ?_)
      refine aw_iload 5 (kk := ?_)
      refine aw_iconst 0 (v := 0) (kk := ?_)
      refine aw_sI (kk := fun σ4 => ?_)
      refine aw_iinc 5 1 (v := 1) (kk := ?_)
      refine aw_goto (-22) 3 (kk := ?_)
      exact am_W.drop [true, true, true, true, true, true, false] (ih (x5 + 1) σ4)
def f_Md_common_l47 (F : Nat) (x0 : Nat) (x3 : Int32) (k78 : am_S → Option (Int32 × am_S)) : Nat → Int32 → am_S → Option (Int32 × am_S)
  | 0, _, _ => none
  | n + 1, x6, σ =>
    (am_gA σ 10 11 x0).bind fun v9 =>
    (am_lI σ .int v9 x3).bind fun v10 =>
    if v10 < x6 then
      k78 σ
    else
      (am_gA σ 10 13 x0).bind fun v11 =>
      (am_gA σ 10 14 x0).bind fun v12 =>
      (am_lI σ .int v12 x6).bind fun v13 =>
      (am_sI σ v11 x6 v13).bind fun σ14 =>
      f_Md_common_l47 F x0 x3 k78 n (x6 + 1) σ14
theorem b_Md_common_l47 {g : am_G} {σ0 : am_S} (F : Nat) (x0 : Nat) (x1 : Int32) (x2 : Int32) (x3 : Int32) (x4 : Int32) (x5 : Int32) (k78 : am_S → Option (Int32 × am_S)) (h78 : ∀ (τ : am_S), am_W g mx_Md_common σ0 78 [some (.ref x0), some (.int x1), some (.int x2), some (.int x3), some (.int x4), some (.int x5), none] [] τ (k78 τ) am_kI) : ∀ (n : Nat) (x6 : Int32) (σ : am_S), am_W g mx_Md_common σ0 47 [some (.ref x0), some (.int x1), some (.int x2), some (.int x3), some (.int x4), some (.int x5), some (.int x6)] [] σ (f_Md_common_l47 F x0 x3 k78 n x6 σ) am_kI := by
  intro n
  induction n with
  | zero =>
    intro x6 σ
    rw [f_Md_common_l47]
    exact am_W.none
  | succ n ih =>
    intro x6 σ
    rw [f_Md_common_l47]
    refine aw_iload 6 (kk := ?_)
    refine aw_aload_n 0 (kk := ?_)
    refine aw_gA 10 11 39 (hw := wd_1166) (kk := fun v9 => ?_)
    refine aw_iload_n 3 (kk := ?_)
    refine aw_lI (kk := fun v10 => ?_)
    refine aw_icmp_gt 23 78 (kt := fun _ => ?_) (kf := fun _ => ?_)
    · exact am_W.drop [true, true, true, true, true, true, false] (h78 σ)
    · refine aw_aload_n 0 (kk := ?_)
      refine aw_gA 10 13 63 (hw := wd_1168) (kk := fun v11 => ?_)
      refine aw_iload 6 (kk := ?_)
      refine aw_aload_n 0 (kk := ?_)
      refine aw_gA 10 14 60 (hw := wd_1169) (kk := fun v12 => ?_)
      refine aw_iload 6 (kk := ?_)
      refine aw_lI (kk := fun v13 => ?_)
      refine aw_sI (kk := fun σ14 => ?_)
      refine aw_iinc 6 1 (v := 1) (kk := ?_)
      refine aw_goto (-28) 47 (kk := ?_)
      exact am_W.drop [true, true, true, true, true, true, true] (ih (x6 + 1) σ14)
def f_Md_common_l88 (F : Nat) (x0 : Nat) (x1 : Int32) (x3 : Int32) (x4 : Int32) (x5 : Int32) (k196 : am_S → Option (Int32 × am_S)) : Nat → Int32 → am_S → Option (Int32 × am_S)
  | 0, _, _ => none
  | n + 1, x6, σ =>
    if x6 < x4 then
      k196 σ
    else
      (am_gA σ 10 10 x0).bind fun v17 =>
      (am_lI σ .int v17 ((x1 * 200) + x5)).bind fun v18 =>
      (am_gA σ 10 10 x0).bind fun v19 =>
      (am_lI σ .int v19 ((x3 * 200) + x6)).bind fun v20 =>
      if v18 = v20 then
        (am_gA σ 10 14 x0).bind fun v32 =>
        (am_gA σ 10 13 x0).bind fun v33 =>
        (am_lI σ .int v33 (x6 + 1)).bind fun v34 =>
        (am_sI σ v32 x6 (v34 + 1)).bind fun σ35 =>
        f_Md_common_l88 F x0 x1 x3 x4 x5 k196 n (x6 + (-1)) σ35
      else
        (am_gA σ 10 14 x0).bind fun v21 =>
        (am_gA σ 10 13 x0).bind fun v22 =>
        (am_lI σ .int v22 x6).bind fun v23 =>
        (am_gA σ 10 14 x0).bind fun v24 =>
        (am_lI σ .int v24 (x6 + 1)).bind fun v25 =>
        if v23 ≤ v25 then
          (am_gA σ 10 14 x0).bind fun v26 =>
          (am_lI σ .int v26 (x6 + 1)).bind fun v27 =>
          (am_sI σ v21 x6 v27).bind fun σ28 =>
          f_Md_common_l88 F x0 x1 x3 x4 x5 k196 n (x6 + (-1)) σ28
        else
          (am_gA σ 10 13 x0).bind fun v29 =>
          (am_lI σ .int v29 x6).bind fun v30 =>
          (am_sI σ v21 x6 v30).bind fun σ31 =>
          f_Md_common_l88 F x0 x1 x3 x4 x5 k196 n (x6 + (-1)) σ31
theorem b_Md_common_l88 {g : am_G} {σ0 : am_S} (F : Nat) (x0 : Nat) (x1 : Int32) (x2 : Int32) (x3 : Int32) (x4 : Int32) (x5 : Int32) (k196 : am_S → Option (Int32 × am_S)) (h196 : ∀ (τ : am_S), am_W g mx_Md_common σ0 196 [some (.ref x0), some (.int x1), some (.int x2), some (.int x3), some (.int x4), some (.int x5), none] [] τ (k196 τ) am_kI) : ∀ (n : Nat) (x6 : Int32) (σ : am_S), am_W g mx_Md_common σ0 88 [some (.ref x0), some (.int x1), some (.int x2), some (.int x3), some (.int x4), some (.int x5), some (.int x6)] [] σ (f_Md_common_l88 F x0 x1 x3 x4 x5 k196 n x6 σ) am_kI := by
  intro n
  induction n with
  | zero =>
    intro x6 σ
    rw [f_Md_common_l88]
    exact am_W.none
  | succ n ih =>
    intro x6 σ
    rw [f_Md_common_l88]
    refine aw_iload 6 (kk := ?_)
    refine aw_iload 4 (kk := ?_)
    refine aw_icmp_lt 104 196 (kt := fun _ => ?_) (kf := fun _ => ?_)
    · exact am_W.drop [true, true, true, true, true, true, false] (h196 σ)
    · refine aw_aload_n 0 (kk := ?_)
      refine aw_gA 10 10 57 (hw := wd_1165) (kk := fun v17 => ?_)
      refine aw_iload_n 1 (kk := ?_)
      refine aw_sipush 200 (v := 200) (kk := ?_)
      refine aw_imul (kk := ?_)
      refine aw_iload 5 (kk := ?_)
      refine aw_iadd (kk := ?_)
      refine aw_lI (kk := fun v18 => ?_)
      refine aw_aload_n 0 (kk := ?_)
      refine aw_gA 10 10 57 (hw := wd_1165) (kk := fun v19 => ?_)
      refine aw_iload_n 3 (kk := ?_)
      refine aw_sipush 200 (v := 200) (kk := ?_)
      refine aw_imul (kk := ?_)
      refine aw_iload 6 (kk := ?_)
      refine aw_iadd (kk := ?_)
      refine aw_lI (kk := fun v20 => ?_)
      refine aw_icmp_ne 24 145 (kt := fun _ => ?_) (kf := fun _ => ?_)
      · refine aw_aload_n 0 (kk := ?_)
        refine aw_gA 10 14 60 (hw := wd_1169) (kk := fun v21 => ?_)
        refine aw_iload 6 (kk := ?_)
        refine aw_aload_n 0 (kk := ?_)
        refine aw_gA 10 13 63 (hw := wd_1168) (kk := fun v22 => ?_)
        refine aw_iload 6 (kk := ?_)
        refine aw_lI (kk := fun v23 => ?_)
        refine aw_aload_n 0 (kk := ?_)
        refine aw_gA 10 14 60 (hw := wd_1169) (kk := fun v24 => ?_)
        refine aw_iload 6 (kk := ?_)
        refine aw_iconst 1 (v := 1) (kk := ?_)
        refine aw_iadd (kk := ?_)
        refine aw_lI (kk := fun v25 => ?_)
        refine aw_icmp_le 13 180 (kt := fun _ => ?_) (kf := fun _ => ?_)
        · refine aw_aload_n 0 (kk := ?_)
          refine aw_gA 10 14 60 (hw := wd_1169) (kk := fun v26 => ?_)
          refine aw_iload 6 (kk := ?_)
          refine aw_iconst 1 (v := 1) (kk := ?_)
          refine aw_iadd (kk := ?_)
          refine aw_lI (kk := fun v27 => ?_)
          refine aw_sI (kk := fun σ28 => ?_)
          refine aw_iinc 6 (-1) (v := (-1)) (kk := ?_)
          refine aw_goto (-105) 88 (kk := ?_)
          exact am_W.drop [true, true, true, true, true, true, true] (ih (x6 + (-1)) σ28)
        · refine aw_aload_n 0 (kk := ?_)
          refine aw_gA 10 13 63 (hw := wd_1168) (kk := fun v29 => ?_)
          refine aw_iload 6 (kk := ?_)
          refine aw_lI (kk := fun v30 => ?_)
          refine aw_goto 12 189 (kk := ?_)
          refine aw_sI (kk := fun σ31 => ?_)
          refine aw_iinc 6 (-1) (v := (-1)) (kk := ?_)
          refine aw_goto (-105) 88 (kk := ?_)
          exact am_W.drop [true, true, true, true, true, true, true] (ih (x6 + (-1)) σ31)
      · refine aw_aload_n 0 (kk := ?_)
        refine aw_gA 10 14 60 (hw := wd_1169) (kk := fun v32 => ?_)
        refine aw_iload 6 (kk := ?_)
        refine aw_aload_n 0 (kk := ?_)
        refine aw_gA 10 13 63 (hw := wd_1168) (kk := fun v33 => ?_)
        refine aw_iload 6 (kk := ?_)
        refine aw_iconst 1 (v := 1) (kk := ?_)
        refine aw_iadd (kk := ?_)
        refine aw_lI (kk := fun v34 => ?_)
        refine aw_iconst 1 (v := 1) (kk := ?_)
        refine aw_iadd (kk := ?_)
        refine aw_sI (kk := fun σ35 => ?_)
        refine aw_goto 48 190 (kk := ?_)
        refine aw_iinc 6 (-1) (v := (-1)) (kk := ?_)
        refine aw_goto (-105) 88 (kk := ?_)
        exact am_W.drop [true, true, true, true, true, true, true] (ih (x6 + (-1)) σ35)
def f_Md_common_j196 (F : Nat) (x5 : Int32) (k38 : Int32 → am_S → Option (Int32 × am_S)) (σ : am_S) : Option (Int32 × am_S) :=
  k38 (x5 + (-1)) σ
theorem b_Md_common_j196 {g : am_G} {σ0 : am_S} (F : Nat) (x0 : Nat) (x1 : Int32) (x2 : Int32) (x3 : Int32) (x4 : Int32) (x5 : Int32) (k38 : Int32 → am_S → Option (Int32 × am_S)) (h38 : ∀ (y5 : Int32)  (τ : am_S), am_W g mx_Md_common σ0 38 [some (.ref x0), some (.int x1), some (.int x2), some (.int x3), some (.int x4), some (.int y5), none] [] τ (k38 y5 τ) am_kI) (σ : am_S) : am_W g mx_Md_common σ0 196 [some (.ref x0), some (.int x1), some (.int x2), some (.int x3), some (.int x4), some (.int x5), none] [] σ (f_Md_common_j196 F x5 k38 σ) am_kI := by
  unfold f_Md_common_j196
  refine aw_iinc 5 (-1) (v := (-1)) (kk := ?_)
  refine aw_goto (-161) 38 (kk := ?_)
  exact am_W.drop [true, true, true, true, true, true, false] (h38 (x5 + (-1)) σ)
def f_Md_common_j78 (F : Nat) (x0 : Nat) (x1 : Int32) (x3 : Int32) (x4 : Int32) (x5 : Int32) (k38 : Int32 → am_S → Option (Int32 × am_S)) (σ : am_S) : Option (Int32 × am_S) :=
  (am_gA σ 10 11 x0).bind fun v15 =>
  (am_lI σ .int v15 x3).bind fun v16 =>
  f_Md_common_l88 F x0 x1 x3 x4 x5 (fun τ => f_Md_common_j196 F x5 (fun y5 τ => k38 y5 τ) τ) F (v16 - 1) σ
theorem b_Md_common_j78 {g : am_G} {σ0 : am_S} (F : Nat) (x0 : Nat) (x1 : Int32) (x2 : Int32) (x3 : Int32) (x4 : Int32) (x5 : Int32) (k38 : Int32 → am_S → Option (Int32 × am_S)) (h38 : ∀ (y5 : Int32)  (τ : am_S), am_W g mx_Md_common σ0 38 [some (.ref x0), some (.int x1), some (.int x2), some (.int x3), some (.int x4), some (.int y5), none] [] τ (k38 y5 τ) am_kI) (σ : am_S) : am_W g mx_Md_common σ0 78 [some (.ref x0), some (.int x1), some (.int x2), some (.int x3), some (.int x4), some (.int x5), none] [] σ (f_Md_common_j78 F x0 x1 x3 x4 x5 k38 σ) am_kI := by
  unfold f_Md_common_j78
  refine aw_aload_n 0 (kk := ?_)
  refine aw_gA 10 11 39 (hw := wd_1166) (kk := fun v15 => ?_)
  refine aw_iload_n 3 (kk := ?_)
  refine aw_lI (kk := fun v16 => ?_)
  refine aw_iconst 1 (v := 1) (kk := ?_)
  refine aw_isub (kk := ?_)
  refine aw_istore 6 (kk := ?_)
  exact am_W.drop [true, true, true, true, true, true, true] (b_Md_common_l88 F x0 x1 x2 x3 x4 x5 (fun τ => f_Md_common_j196 F x5 (fun y5 τ => k38 y5 τ) τ) (fun τ => am_W.drop [true, true, true, true, true, true, false] (b_Md_common_j196 F x0 x1 x2 x3 x4 x5 (fun y5 τ => k38 y5 τ) (fun y5 τ => am_W.drop [true, true, true, true, true, true, false] (h38 y5 τ)) τ)) F (v16 - 1) σ)
def f_Md_common_l38 (F : Nat) (x0 : Nat) (x1 : Int32) (x2 : Int32) (x3 : Int32) (x4 : Int32)  : Nat → Int32 → am_S → Option (Int32 × am_S)
  | 0, _, _ => none
  | n + 1, x5, σ =>
    if x5 < x2 then
      (am_gA σ 10 14 x0).bind fun v7 =>
      (am_lI σ .int v7 x4).bind fun v8 =>
      some (v8, σ)
    else
      f_Md_common_l47 F x0 x3 (fun τ => f_Md_common_j78 F x0 x1 x3 x4 x5 (fun y5 τ => f_Md_common_l38 F x0 x1 x2 x3 x4 n y5 τ) τ) F 0 σ
theorem b_Md_common_l38 {g : am_G} {σ0 : am_S} (F : Nat) (x0 : Nat) (x1 : Int32) (x2 : Int32) (x3 : Int32) (x4 : Int32)   : ∀ (n : Nat) (x5 : Int32) (σ : am_S), am_W g mx_Md_common σ0 38 [some (.ref x0), some (.int x1), some (.int x2), some (.int x3), some (.int x4), some (.int x5), none] [] σ (f_Md_common_l38 F x0 x1 x2 x3 x4 n x5 σ) am_kI := by
  intro n
  induction n with
  | zero =>
    intro x5 σ
    rw [f_Md_common_l38]
    exact am_W.none
  | succ n ih =>
    intro x5 σ
    rw [f_Md_common_l38]
    refine aw_iload 5 (kk := ?_)
    refine aw_iload_n 2 (kk := ?_)
    refine aw_icmp_lt 161 202 (kt := fun _ => ?_) (kf := fun _ => ?_)
    · refine aw_aload_n 0 (kk := ?_)
      refine aw_gA 10 14 60 (hw := wd_1169) (kk := fun v7 => ?_)
      refine aw_iload 4 (kk := ?_)
      refine aw_lI (kk := fun v8 => ?_)
      exact aw_iret
    · refine aw_iconst 0 (v := 0) (kk := ?_)
      refine aw_istore 6 (kk := ?_)
      exact am_W.drop [true, true, true, true, true, true, true] (b_Md_common_l47 F x0 x1 x2 x3 x4 x5 (fun τ => f_Md_common_j78 F x0 x1 x3 x4 x5 (fun y5 τ => f_Md_common_l38 F x0 x1 x2 x3 x4 n y5 τ) τ) (fun τ => am_W.drop [true, true, true, true, true, true, false] (b_Md_common_j78 F x0 x1 x2 x3 x4 x5 (fun y5 τ => f_Md_common_l38 F x0 x1 x2 x3 x4 n y5 τ) (fun y5 τ => am_W.drop [true, true, true, true, true, true, false] (ih y5 τ)) τ)) F 0 σ)
def f_Md_common_j28 (F : Nat) (x0 : Nat) (x1 : Int32) (x2 : Int32) (x3 : Int32) (x4 : Int32)  (σ : am_S) : Option (Int32 × am_S) :=
  (am_gA σ 10 11 x0).bind fun v5 =>
  (am_lI σ .int v5 x1).bind fun v6 =>
  f_Md_common_l38 F x0 x1 x2 x3 x4 F (v6 - 1) σ
theorem b_Md_common_j28 {g : am_G} {σ0 : am_S} (F : Nat) (x0 : Nat) (x1 : Int32) (x2 : Int32) (x3 : Int32) (x4 : Int32)   (σ : am_S) : am_W g mx_Md_common σ0 28 [some (.ref x0), some (.int x1), some (.int x2), some (.int x3), some (.int x4), none, none] [] σ (f_Md_common_j28 F x0 x1 x2 x3 x4 σ) am_kI := by
  unfold f_Md_common_j28
  refine aw_aload_n 0 (kk := ?_)
  refine aw_gA 10 11 39 (hw := wd_1166) (kk := fun v5 => ?_)
  refine aw_iload_n 1 (kk := ?_)
  refine aw_lI (kk := fun v6 => ?_)
  refine aw_iconst 1 (v := 1) (kk := ?_)
  refine aw_isub (kk := ?_)
  refine aw_istore 5 (kk := ?_)
  exact am_W.drop [true, true, true, true, true, true, false] (b_Md_common_l38 F x0 x1 x2 x3 x4 F (v6 - 1) σ)
def f_Md_common (F : Nat) (σ : am_S) (x0 : Nat) (x1 : Int32) (x2 : Int32) (x3 : Int32) (x4 : Int32) : Option (Int32 × am_S) :=
  am_ck σ 10 x0 (
  f_Md_common_l3 F x0 x3 (fun τ => f_Md_common_j28 F x0 x1 x2 x3 x4 τ) F 0 σ)
theorem rc_Md_common {F : Nat} {σ : am_S} {x0 : Nat} {x1 : Int32} {x2 : Int32} {x3 : Int32} {x4 : Int32} (h : (f_Md_common F σ x0 x1 x2 x3 x4).isSome = true) : ∃ fs, σ.2.2 x0 = some (.inr (10, fs)) := am_ck_some h
theorem m_Md_common (g : am_G) (F : Nat) (σ : am_S) (x0 : Nat) (x1 : Int32) (x2 : Int32) (x3 : Int32) (x4 : Int32) : am_Met g mx_Md_common [.ref x0, .int x1, .int x2, .int x3, .int x4] σ ((f_Md_common F σ x0 x1 x2 x3 x4).bind am_kI) := by
  refine am_Met.of (lv := [some (.ref x0), some (.int x1), some (.int x2), some (.int x3), some (.int x4), none, none]) (am_cc rfl (am_cc rfl (am_cc rfl (am_cc rfl (am_cc rfl am_c0))))) (Nat.le_of_ble_eq_true rfl) rfl (by decide) ?_
  unfold f_Md_common
  refine am_W.ck ?_
  refine aw_iconst 0 (v := 0) (kk := ?_)
  refine aw_istore 5 (kk := ?_)
  exact am_W.drop [true, true, true, true, true, true, false] (b_Md_common_l3 F x0 x1 x2 x3 x4 (fun τ => f_Md_common_j28 F x0 x1 x2 x3 x4 τ) (fun τ => am_W.drop [true, true, true, true, true, false, false] (b_Md_common_j28 F x0 x1 x2 x3 x4 τ)) F 0 σ)
def f_Md_pair_l7 (F : Nat) (x0 : Nat) (x1 : Int32) (k35 : am_S → Option (am_S)) : Nat → Int32 → am_S → Option (am_S)
  | 0, _, _ => none
  | n + 1, x4, σ =>
    if 200 ≤ x4 then
      k35 σ
    else
      (am_gA σ 10 12 x0).bind fun v1 =>
      (am_sI σ v1 ((x1 * 200) + x4) (-1)).bind fun σ2 =>
      f_Md_pair_l7 F x0 x1 k35 n (x4 + 1) σ2
theorem b_Md_pair_l7 {g : am_G} {σ0 : am_S} (F : Nat) (x0 : Nat) (x1 : Int32) (x2 : Int32) (x3 : Int32) (k35 : am_S → Option (am_S)) (h35 : ∀ (τ : am_S), am_W g mx_Md_pair σ0 35 [some (.ref x0), some (.int x1), some (.int x2), some (.int x3), none] [] τ (k35 τ) am_kV) : ∀ (n : Nat) (x4 : Int32) (σ : am_S), am_W g mx_Md_pair σ0 7 [some (.ref x0), some (.int x1), some (.int x2), some (.int x3), some (.int x4)] [] σ (f_Md_pair_l7 F x0 x1 k35 n x4 σ) am_kV := by
  intro n
  induction n with
  | zero =>
    intro x4 σ
    rw [f_Md_pair_l7]
    exact am_W.none
  | succ n ih =>
    intro x4 σ
    rw [f_Md_pair_l7]
    refine aw_iload 4 (kk := ?_)
    refine aw_sipush 200 (v := 200) (kk := ?_)
    refine aw_icmp_ge 23 35 (kt := fun _ => ?_) (kf := fun _ => ?_)
    · exact am_W.drop [true, true, true, true, false] (h35 σ)
    · refine aw_aload_n 0 (kk := ?_)
      refine aw_gA 10 12 66 (hw := wd_1167) (kk := fun v1 => ?_)
      refine aw_iload_n 1 (kk := ?_)
      refine aw_sipush 200 (v := 200) (kk := ?_)
      refine aw_imul (kk := ?_)
      refine aw_iload 4 (kk := ?_)
      refine aw_iadd (kk := ?_)
      refine aw_iconst (-1) (v := (-1)) (kk := ?_)
      refine aw_sI (kk := fun σ2 => ?_)
      refine aw_iinc 4 1 (v := 1) (kk := ?_)
      refine aw_goto (-25) 7 (kk := ?_)
      exact am_W.drop [true, true, true, true, true] (ih (x4 + 1) σ2)
def f_Md_pair_l35 (F : Nat) (x0 : Nat) (x1 : Int32)  : Nat → Int32 → Int32 → am_S → Option (am_S)
  | 0, _, _, _ => none
  | n + 1, x2, x3, σ =>
    (am_gA σ 10 11 x0).bind fun v3 =>
    (am_lI σ .int v3 0).bind fun v4 =>
    if v4 ≤ x2 then
      some σ
    else
      (am_gA σ 10 11 x0).bind fun v5 =>
      (am_lI σ .int v5 x1).bind fun v6 =>
      if v6 ≤ x3 then
        some σ
      else
        (am_gA σ 10 10 x0).bind fun v7 =>
        (am_lI σ .int v7 x2).bind fun v8 =>
        (am_gA σ 10 10 x0).bind fun v9 =>
        (am_lI σ .int v9 ((x1 * 200) + x3)).bind fun v10 =>
        if v8 = v10 then
          (am_gA σ 10 12 x0).bind fun v15 =>
          (am_sI σ v15 ((x1 * 200) + x2) x3).bind fun σ16 =>
          f_Md_pair_l35 F x0 x1 n (x2 + 1) (x3 + 1) σ16
        else
          am_b2 (f_Md_common F σ x0 0 (x2 + 1) x1 x3) fun v11 σ12 =>
          am_b2 (f_Md_common F σ12 x0 0 x2 x1 (x3 + 1)) fun v13 σ14 =>
          if v11 < v13 then
            f_Md_pair_l35 F x0 x1 n x2 (x3 + 1) σ14
          else
            f_Md_pair_l35 F x0 x1 n (x2 + 1) x3 σ14
theorem b_Md_pair_l35 {g : am_G} {σ0 : am_S} (F : Nat) (x0 : Nat) (x1 : Int32)   : ∀ (n : Nat) (x2 : Int32) (x3 : Int32) (σ : am_S), am_W g mx_Md_pair σ0 35 [some (.ref x0), some (.int x1), some (.int x2), some (.int x3), none] [] σ (f_Md_pair_l35 F x0 x1 n x2 x3 σ) am_kV := by
  intro n
  induction n with
  | zero =>
    intro x2 x3 σ
    rw [f_Md_pair_l35]
    exact am_W.none
  | succ n ih =>
    intro x2 x3 σ
    rw [f_Md_pair_l35]
    refine aw_iload_n 2 (kk := ?_)
    refine aw_aload_n 0 (kk := ?_)
    refine aw_gA 10 11 39 (hw := wd_1166) (kk := fun v3 => ?_)
    refine aw_iconst 0 (v := 0) (kk := ?_)
    refine aw_lI (kk := fun v4 => ?_)
    refine aw_icmp_ge 91 133 (kt := fun _ => ?_) (kf := fun _ => ?_)
    · exact aw_vret
    · refine aw_iload_n 3 (kk := ?_)
      refine aw_aload_n 0 (kk := ?_)
      refine aw_gA 10 11 39 (hw := wd_1166) (kk := fun v5 => ?_)
      refine aw_iload_n 1 (kk := ?_)
      refine aw_lI (kk := fun v6 => ?_)
      refine aw_icmp_ge 81 133 (kt := fun _ => ?_) (kf := fun _ => ?_)
      · exact aw_vret
      · refine aw_aload_n 0 (kk := ?_)
        refine aw_gA 10 10 57 (hw := wd_1165) (kk := fun v7 => ?_)
        refine aw_iload_n 2 (kk := ?_)
        refine aw_lI (kk := fun v8 => ?_)
        refine aw_aload_n 0 (kk := ?_)
        refine aw_gA 10 10 57 (hw := wd_1165) (kk := fun v9 => ?_)
        refine aw_iload_n 1 (kk := ?_)
        refine aw_sipush 200 (v := 200) (kk := ?_)
        refine aw_imul (kk := ?_)
        refine aw_iload_n 3 (kk := ?_)
        refine aw_iadd (kk := ?_)
        refine aw_lI (kk := fun v10 => ?_)
        refine aw_icmp_ne 25 98 (kt := fun _ => ?_) (kf := fun _ => ?_)
        · refine aw_aload_n 0 (kk := ?_)
          refine aw_iconst 0 (v := 0) (kk := ?_)
          refine aw_iload_n 2 (kk := ?_)
          refine aw_iconst 1 (v := 1) (kk := ?_)
          refine aw_iadd (kk := ?_)
          refine aw_iload_n 1 (kk := ?_)
          refine aw_iload_n 3 (kk := ?_)
          refine ac_I (st := []) [.ref x0, .int 0, .int (x2 + 1), .int x1, .int x3] (ag_V 69 10 rc_Md_common wd_1480 cal_Md_common wd_1482 ws_60) cal_Md_common ⟨by decide, by decide⟩ (Nat.le_of_ble_eq_true rfl) (m_Md_common g F σ x0 0 (x2 + 1) x1 x3) (fun v11 σ12 => ?_)
          refine aw_aload_n 0 (kk := ?_)
          refine aw_iconst 0 (v := 0) (kk := ?_)
          refine aw_iload_n 2 (kk := ?_)
          refine aw_iload_n 1 (kk := ?_)
          refine aw_iload_n 3 (kk := ?_)
          refine aw_iconst 1 (v := 1) (kk := ?_)
          refine aw_iadd (kk := ?_)
          refine ac_I (st := [.int v11]) [.ref x0, .int 0, .int x2, .int x1, .int (x3 + 1)] (ag_V 69 10 rc_Md_common wd_1480 cal_Md_common wd_1482 ws_60) cal_Md_common ⟨by decide, by decide⟩ (Nat.le_of_ble_eq_true rfl) (m_Md_common g F σ12 x0 0 x2 x1 (x3 + 1)) (fun v13 σ14 => ?_)
          refine aw_icmp_lt 9 127 (kt := fun _ => ?_) (kf := fun _ => ?_)
          · refine aw_iinc 3 1 (v := 1) (kk := ?_)
            refine aw_goto (-95) 35 (kk := ?_)
            exact am_W.drop [true, true, true, true, false] (ih x2 (x3 + 1) σ14)
          · refine aw_iinc 2 1 (v := 1) (kk := ?_)
            refine aw_goto (-89) 35 (kk := ?_)
            exact am_W.drop [true, true, true, true, false] (ih (x2 + 1) x3 σ14)
        · refine aw_aload_n 0 (kk := ?_)
          refine aw_gA 10 12 66 (hw := wd_1167) (kk := fun v15 => ?_)
          refine aw_iload_n 1 (kk := ?_)
          refine aw_sipush 200 (v := 200) (kk := ?_)
          refine aw_imul (kk := ?_)
          refine aw_iload_n 2 (kk := ?_)
          refine aw_iadd (kk := ?_)
          refine aw_iload_n 3 (kk := ?_)
          refine aw_sI (kk := fun σ16 => ?_)
          refine aw_iinc 2 1 (v := 1) (kk := ?_)
          refine aw_iinc 3 1 (v := 1) (kk := ?_)
          refine aw_goto (-60) 35 (kk := ?_)
          exact am_W.drop [true, true, true, true, false] (ih (x2 + 1) (x3 + 1) σ16)
def f_Md_pair (F : Nat) (σ : am_S) (x0 : Nat) (x1 : Int32) : Option (am_S) :=
  am_ck σ 10 x0 (
  f_Md_pair_l7 F x0 x1 (fun τ => f_Md_pair_l35 F x0 x1 F 0 0 τ) F 0 σ)
theorem rc_Md_pair {F : Nat} {σ : am_S} {x0 : Nat} {x1 : Int32} (h : (f_Md_pair F σ x0 x1).isSome = true) : ∃ fs, σ.2.2 x0 = some (.inr (10, fs)) := am_ck_some h
theorem m_Md_pair (g : am_G) (F : Nat) (σ : am_S) (x0 : Nat) (x1 : Int32) : am_Met g mx_Md_pair [.ref x0, .int x1] σ ((f_Md_pair F σ x0 x1).bind am_kV) := by
  refine am_Met.of (lv := [some (.ref x0), some (.int x1), none, none, none]) (am_cc rfl (am_cc rfl am_c0)) (Nat.le_of_ble_eq_true rfl) rfl (by decide) ?_
  unfold f_Md_pair
  refine am_W.ck ?_
  refine aw_iconst 0 (v := 0) (kk := ?_)
  refine aw_istore_n 2 (kk := ?_)
  refine aw_iconst 0 (v := 0) (kk := ?_)
  refine aw_istore_n 3 (kk := ?_)
  refine aw_iconst 0 (v := 0) (kk := ?_)
  refine aw_istore 4 (kk := ?_)
  exact am_W.drop [true, true, true, true, true] (b_Md_pair_l7 F x0 x1 0 0 (fun τ => f_Md_pair_l35 F x0 x1 F 0 0 τ) (fun τ => am_W.drop [true, true, true, true, false] (b_Md_pair_l35 F x0 x1 F 0 0 τ)) F 0 σ)
def f_Md_ended (F : Nat) (σ : am_S) (x0 : Nat) (x1 : Int32) (x2 : Int32) (x3 : Int32) (x4 : Nat) : Option (am_S) :=
  am_ck σ 10 x0 (
  (am_gA σ 10 8 x0).bind fun v1 =>
  (am_lA σ 12 v1 x1).bind fun v2 =>
  am_b2 (f_Ro_addb F σ x4 v2 x2 x3) fun v3 σ4 =>
  if x3 ≤ x2 then
    some σ4
  else
    (am_gA σ4 10 8 x0).bind fun v5 =>
    (am_lA σ4 12 v5 x1).bind fun v6 =>
    (f_Ro_get F σ4 v6 (x3 - 1)).bind fun v7 =>
    if v7 = 10 then
      some σ4
    else
      am_b2 (f_Ro_adda F σ4 x4 10) fun v8 σ9 =>
      some σ9)
theorem rc_Md_ended {F : Nat} {σ : am_S} {x0 : Nat} {x1 : Int32} {x2 : Int32} {x3 : Int32} {x4 : Nat} (h : (f_Md_ended F σ x0 x1 x2 x3 x4).isSome = true) : ∃ fs, σ.2.2 x0 = some (.inr (10, fs)) := am_ck_some h
theorem m_Md_ended (g : am_G) (F : Nat) (σ : am_S) (x0 : Nat) (x1 : Int32) (x2 : Int32) (x3 : Int32) (x4 : Nat) : am_Met g mx_Md_ended [.ref x0, .int x1, .int x2, .int x3, .ref x4] σ ((f_Md_ended F σ x0 x1 x2 x3 x4).bind am_kV) := by
  refine am_Met.of (lv := [some (.ref x0), some (.int x1), some (.int x2), some (.int x3), some (.ref x4)]) (am_cc rfl (am_cc rfl (am_cc rfl (am_cc rfl (am_cc rfl am_c0))))) (Nat.le_of_ble_eq_true rfl) rfl (by decide) ?_
  unfold f_Md_ended
  refine am_W.ck ?_
  refine aw_aload 4 (kk := ?_)
  refine aw_aload_n 0 (kk := ?_)
  refine aw_gA 10 8 32 (hw := wd_1163) (kk := fun v1 => ?_)
  refine aw_iload_n 1 (kk := ?_)
  refine aw_lA 12 (kk := fun v2 => ?_)
  refine aw_iload_n 2 (kk := ?_)
  refine aw_iload_n 3 (kk := ?_)
  refine ac_A (st := []) [.ref x4, .ref v2, .int x2, .int x3] (ag_V 73 12 rc_Ro_addb wd_1434 cal_Ro_addb wd_1317 wd_1318) cal_Ro_addb ⟨by decide, by decide⟩ (Nat.le_of_ble_eq_true rfl) (m_Ro_addb g F σ x4 v2 x2 x3) (fun v3 σ4 => ?_)
  refine aw_pop (kk := ?_)
  refine aw_iload_n 3 (kk := ?_)
  refine aw_iload_n 2 (kk := ?_)
  refine aw_icmp_le 28 44 (kt := fun _ => ?_) (kf := fun _ => ?_)
  · exact aw_vret
  · refine aw_aload_n 0 (kk := ?_)
    refine aw_gA 10 8 32 (hw := wd_1163) (kk := fun v5 => ?_)
    refine aw_iload_n 1 (kk := ?_)
    refine aw_lA 12 (kk := fun v6 => ?_)
    refine aw_iload_n 3 (kk := ?_)
    refine aw_iconst 1 (v := 1) (kk := ?_)
    refine aw_isub (kk := ?_)
    refine ac_PI (st := []) [.ref v6, .int (x3 - 1)] (ag_V 42 12 rc_Ro_get wd_1335 cal_Ro_get wd_1336 wd_1337) cal_Ro_get ⟨by decide, by decide⟩ (Nat.le_of_ble_eq_true rfl) (m_Ro_get g F σ4 v6 (x3 - 1)) (fun v7 => ?_)
    refine aw_bipush 10 (v := 10) (kk := ?_)
    refine aw_icmp_eq 11 44 (kt := fun _ => ?_) (kf := fun _ => ?_)
    · exact aw_vret
    · refine aw_aload 4 (kk := ?_)
      refine aw_bipush 10 (v := 10) (kk := ?_)
      refine ac_A (st := []) [.ref x4, .int 10] (ag_V 77 12 rc_Ro_adda wd_1499 cal_Ro_adda wd_1300 wd_1301) cal_Ro_adda ⟨by decide, by decide⟩ (Nat.le_of_ble_eq_true rfl) (m_Ro_adda g F σ4 x4 10) (fun v8 σ9 => ?_)
      refine aw_pop (kk := ?_)
      exact aw_vret
def f_Md_part_j148 (F : Nat) (x0 : Nat) (x7 : Nat) (x10 : Int32) (x11 : Int32)  (σ : am_S) : Option (Int32 × am_S) :=
  (am_gA σ 10 8 x0).bind fun v17 =>
  (am_lA σ 12 v17 1).bind fun v18 =>
  am_b2 (f_Ro_addb F σ x7 v18 x10 x11) fun v19 σ20 =>
  some (0, σ20)
theorem b_Md_part_j148 {g : am_G} {σ0 : am_S} (F : Nat) (x0 : Nat) (x7 : Nat) (x10 : Int32) (x11 : Int32)   (σ : am_S) : am_W g mx_Md_part σ0 148 [some (.ref x0), none, none, none, none, none, none, some (.ref x7), none, none, some (.int x10), some (.int x11), none, none] [] σ (f_Md_part_j148 F x0 x7 x10 x11 σ) am_kI := by
  unfold f_Md_part_j148
  refine aw_aload 7 (kk := ?_)
  refine aw_aload_n 0 (kk := ?_)
  refine aw_gA 10 8 32 (hw := wd_1163) (kk := fun v17 => ?_)
  refine aw_iconst 1 (v := 1) (kk := ?_)
  refine aw_lA 12 (kk := fun v18 => ?_)
  refine aw_iload 10 (kk := ?_)
  refine aw_iload 11 (kk := ?_)
  refine ac_A (st := []) [.ref x7, .ref v18, .int x10, .int x11] (ag_V 73 12 rc_Ro_addb wd_1434 cal_Ro_addb wd_1317 wd_1318) cal_Ro_addb ⟨by decide, by decide⟩ (Nat.le_of_ble_eq_true rfl) (m_Ro_addb g F σ x7 v18 x10 x11) (fun v19 σ20 => ?_)
  refine aw_pop (kk := ?_)
  refine aw_goto 51 215 (kk := ?_)
  refine aw_iconst 0 (v := 0) (kk := ?_)
  exact aw_zretL (by decide)
def f_Md_part (F : Nat) (σ : am_S) (x0 : Nat) (x1 : Int32) (x2 : Int32) (x3 : Int32) (x4 : Int32) (x5 : Int32) (x6 : Int32) (x7 : Nat) : Option (Int32 × am_S) :=
  am_ck σ 10 x0 (
  (f_Md_start F σ x0 0 x1).bind fun v1 =>
  (f_Md_start F σ x0 0 x2).bind fun v2 =>
  (f_Md_start F σ x0 1 x3).bind fun v3 =>
  (f_Md_start F σ x0 1 x4).bind fun v4 =>
  (f_Md_start F σ x0 2 x5).bind fun v5 =>
  (f_Md_start F σ x0 2 x6).bind fun v6 =>
  (am_gA σ 10 8 x0).bind fun v7 =>
  (am_lA σ 12 v7 0).bind fun v8 =>
  (am_gA σ 10 8 x0).bind fun v9 =>
  (am_lA σ 12 v9 1).bind fun v10 =>
  (f_Md_sameb F σ v8 v1 v2 v10 v3 v4).bind fun v11 =>
  if v11 = 0 then
    (am_gA σ 10 8 x0).bind fun v12 =>
    (am_lA σ 12 v12 0).bind fun v13 =>
    (am_gA σ 10 8 x0).bind fun v14 =>
    (am_lA σ 12 v14 2).bind fun v15 =>
    (f_Md_sameb F σ v13 v1 v2 v15 v5 v6).bind fun v16 =>
    if v16 = 0 then
      (am_gA σ 10 8 x0).bind fun v21 =>
      (am_lA σ 12 v21 1).bind fun v22 =>
      (am_gA σ 10 8 x0).bind fun v23 =>
      (am_lA σ 12 v23 2).bind fun v24 =>
      (f_Md_sameb F σ v22 v3 v4 v24 v5 v6).bind fun v25 =>
      if v25 = 0 then
        am_b2 (f_Ro_addd F σ x7 2) fun v26 σ27 =>
        (f_Md_ended F σ27 x0 1 v3 v4 x7).bind fun σ28 =>
        am_b2 (f_Ro_addd F σ28 x7 3) fun v29 σ30 =>
        (f_Md_ended F σ30 x0 2 v5 v6 x7).bind fun σ31 =>
        am_b2 (f_Ro_addd F σ31 x7 4) fun v32 σ33 =>
        some (1, σ33)
      else
        f_Md_part_j148 F x0 x7 v3 v4 σ
    else
      f_Md_part_j148 F x0 x7 v3 v4 σ
  else
    (am_gA σ 10 8 x0).bind fun v34 =>
    (am_lA σ 12 v34 2).bind fun v35 =>
    am_b2 (f_Ro_addb F σ x7 v35 v5 v6) fun v36 σ37 =>
    some (0, σ37))
theorem rc_Md_part {F : Nat} {σ : am_S} {x0 : Nat} {x1 : Int32} {x2 : Int32} {x3 : Int32} {x4 : Int32} {x5 : Int32} {x6 : Int32} {x7 : Nat} (h : (f_Md_part F σ x0 x1 x2 x3 x4 x5 x6 x7).isSome = true) : ∃ fs, σ.2.2 x0 = some (.inr (10, fs)) := am_ck_some h
theorem m_Md_part (g : am_G) (F : Nat) (σ : am_S) (x0 : Nat) (x1 : Int32) (x2 : Int32) (x3 : Int32) (x4 : Int32) (x5 : Int32) (x6 : Int32) (x7 : Nat) : am_Met g mx_Md_part [.ref x0, .int x1, .int x2, .int x3, .int x4, .int x5, .int x6, .ref x7] σ ((f_Md_part F σ x0 x1 x2 x3 x4 x5 x6 x7).bind am_kI) := by
  refine am_Met.of (lv := [some (.ref x0), some (.int x1), some (.int x2), some (.int x3), some (.int x4), some (.int x5), some (.int x6), some (.ref x7), none, none, none, none, none, none]) (am_cc rfl (am_cc rfl (am_cc rfl (am_cc rfl (am_cc rfl (am_cc rfl (am_cc rfl (am_cc rfl am_c0)))))))) (Nat.le_of_ble_eq_true rfl) rfl (by decide) ?_
  unfold f_Md_part
  refine am_W.ck ?_
  refine aw_aload_n 0 (kk := ?_)
  refine aw_iconst 0 (v := 0) (kk := ?_)
  refine aw_iload_n 1 (kk := ?_)
  refine ac_PI (st := []) [.ref x0, .int 0, .int x1] (ag_V 46 10 rc_Md_start wd_1447 cal_Md_start wd_1449 ws_54) cal_Md_start ⟨by decide, by decide⟩ (Nat.le_of_ble_eq_true rfl) (m_Md_start g F σ x0 0 x1) (fun v1 => ?_)
  refine aw_istore 8 (kk := ?_)
  refine aw_aload_n 0 (kk := ?_)
  refine aw_iconst 0 (v := 0) (kk := ?_)
  refine aw_iload_n 2 (kk := ?_)
  refine ac_PI (st := []) [.ref x0, .int 0, .int x2] (ag_V 46 10 rc_Md_start wd_1447 cal_Md_start wd_1449 ws_54) cal_Md_start ⟨by decide, by decide⟩ (Nat.le_of_ble_eq_true rfl) (m_Md_start g F σ x0 0 x2) (fun v2 => ?_)
  refine aw_istore 9 (kk := ?_)
  refine aw_aload_n 0 (kk := ?_)
  refine aw_iconst 1 (v := 1) (kk := ?_)
  refine aw_iload_n 3 (kk := ?_)
  refine ac_PI (st := []) [.ref x0, .int 1, .int x3] (ag_V 46 10 rc_Md_start wd_1447 cal_Md_start wd_1449 ws_54) cal_Md_start ⟨by decide, by decide⟩ (Nat.le_of_ble_eq_true rfl) (m_Md_start g F σ x0 1 x3) (fun v3 => ?_)
  refine aw_istore 10 (kk := ?_)
  refine aw_aload_n 0 (kk := ?_)
  refine aw_iconst 1 (v := 1) (kk := ?_)
  refine aw_iload 4 (kk := ?_)
  refine ac_PI (st := []) [.ref x0, .int 1, .int x4] (ag_V 46 10 rc_Md_start wd_1447 cal_Md_start wd_1449 ws_54) cal_Md_start ⟨by decide, by decide⟩ (Nat.le_of_ble_eq_true rfl) (m_Md_start g F σ x0 1 x4) (fun v4 => ?_)
  refine aw_istore 11 (kk := ?_)
  refine aw_aload_n 0 (kk := ?_)
  refine aw_iconst 2 (v := 2) (kk := ?_)
  refine aw_iload 5 (kk := ?_)
  refine ac_PI (st := []) [.ref x0, .int 2, .int x5] (ag_V 46 10 rc_Md_start wd_1447 cal_Md_start wd_1449 ws_54) cal_Md_start ⟨by decide, by decide⟩ (Nat.le_of_ble_eq_true rfl) (m_Md_start g F σ x0 2 x5) (fun v5 => ?_)
  refine aw_istore 12 (kk := ?_)
  refine aw_aload_n 0 (kk := ?_)
  refine aw_iconst 2 (v := 2) (kk := ?_)
  refine aw_iload 6 (kk := ?_)
  refine ac_PI (st := []) [.ref x0, .int 2, .int x6] (ag_V 46 10 rc_Md_start wd_1447 cal_Md_start wd_1449 ws_54) cal_Md_start ⟨by decide, by decide⟩ (Nat.le_of_ble_eq_true rfl) (m_Md_start g F σ x0 2 x6) (fun v6 => ?_)
  refine aw_istore 13 (kk := ?_)
  refine aw_aload_n 0 (kk := ?_)
  refine aw_gA 10 8 32 (hw := wd_1163) (kk := fun v7 => ?_)
  refine aw_iconst 0 (v := 0) (kk := ?_)
  refine aw_lA 12 (kk := fun v8 => ?_)
  refine aw_iload 8 (kk := ?_)
  refine aw_iload 9 (kk := ?_)
  refine aw_aload_n 0 (kk := ?_)
  refine aw_gA 10 8 32 (hw := wd_1163) (kk := fun v9 => ?_)
  refine aw_iconst 1 (v := 1) (kk := ?_)
  refine aw_lA 12 (kk := fun v10 => ?_)
  refine aw_iload 10 (kk := ?_)
  refine aw_iload 11 (kk := ?_)
  refine ac_PI (st := []) [.ref v8, .int v1, .int v2, .ref v10, .int v3, .int v4] (ag_S 50 wd_1451 cal_Md_sameb wd_1452) cal_Md_sameb ⟨by decide, by decide⟩ (Nat.le_of_ble_eq_true rfl) (m_Md_sameb g F σ v8 v1 v2 v10 v3 v4) (fun v11 => ?_)
  refine aw_if_eq 22 96 (kt := fun _ => ?_) (kf := fun _ => ?_)
  · refine aw_aload_n 0 (kk := ?_)
    refine aw_gA 10 8 32 (hw := wd_1163) (kk := fun v12 => ?_)
    refine aw_iconst 0 (v := 0) (kk := ?_)
    refine aw_lA 12 (kk := fun v13 => ?_)
    refine aw_iload 8 (kk := ?_)
    refine aw_iload 9 (kk := ?_)
    refine aw_aload_n 0 (kk := ?_)
    refine aw_gA 10 8 32 (hw := wd_1163) (kk := fun v14 => ?_)
    refine aw_iconst 2 (v := 2) (kk := ?_)
    refine aw_lA 12 (kk := fun v15 => ?_)
    refine aw_iload 12 (kk := ?_)
    refine aw_iload 13 (kk := ?_)
    refine ac_PI (st := []) [.ref v13, .int v1, .int v2, .ref v15, .int v5, .int v6] (ag_S 50 wd_1451 cal_Md_sameb wd_1452) cal_Md_sameb ⟨by decide, by decide⟩ (Nat.le_of_ble_eq_true rfl) (m_Md_sameb g F σ v13 v1 v2 v15 v5 v6) (fun v16 => ?_)
    refine aw_if_ne 29 148 (kt := fun _ => ?_) (kf := fun _ => ?_)
    · exact am_W.drop [true, false, false, false, false, false, false, true, false, false, true, true, false, false] (b_Md_part_j148 F x0 x7 v3 v4 σ)
    · refine aw_aload_n 0 (kk := ?_)
      refine aw_gA 10 8 32 (hw := wd_1163) (kk := fun v21 => ?_)
      refine aw_iconst 1 (v := 1) (kk := ?_)
      refine aw_lA 12 (kk := fun v22 => ?_)
      refine aw_iload 10 (kk := ?_)
      refine aw_iload 11 (kk := ?_)
      refine aw_aload_n 0 (kk := ?_)
      refine aw_gA 10 8 32 (hw := wd_1163) (kk := fun v23 => ?_)
      refine aw_iconst 2 (v := 2) (kk := ?_)
      refine aw_lA 12 (kk := fun v24 => ?_)
      refine aw_iload 12 (kk := ?_)
      refine aw_iload 13 (kk := ?_)
      refine ac_PI (st := []) [.ref v22, .int v3, .int v4, .ref v24, .int v5, .int v6] (ag_S 50 wd_1451 cal_Md_sameb wd_1452) cal_Md_sameb ⟨by decide, by decide⟩ (Nat.le_of_ble_eq_true rfl) (m_Md_sameb g F σ v22 v3 v4 v24 v5 v6) (fun v25 => ?_)
      refine aw_if_eq 22 167 (kt := fun _ => ?_) (kf := fun _ => ?_)
      · refine aw_aload 7 (kk := ?_)
        refine aw_ldcS 80 2 "<<<<<<< ours\n" (by decide) (hz := fun h => h.2.2.2.1.1) (kk := ?_)
        refine ac_A (st := []) [.ref x7, .ref 2] (ag_V 82 12 rc_Ro_addd wd_1489 cal_Ro_addd wd_1490 wd_1491) cal_Ro_addd ⟨by decide, by decide⟩ (Nat.le_of_ble_eq_true rfl) (m_Ro_addd g F σ x7 2) (fun v26 σ27 => ?_)
        refine aw_pop (kk := ?_)
        refine aw_aload_n 0 (kk := ?_)
        refine aw_iconst 1 (v := 1) (kk := ?_)
        refine aw_iload 10 (kk := ?_)
        refine aw_iload 11 (kk := ?_)
        refine aw_aload 7 (kk := ?_)
        refine ac_V (st := []) [.ref x0, .int 1, .int v3, .int v4, .ref x7] (ag_V 85 10 rc_Md_ended wd_1495 cal_Md_ended wd_1497 ws_62) cal_Md_ended ⟨by decide, by decide⟩ (Nat.le_of_ble_eq_true rfl) (m_Md_ended g F σ27 x0 1 v3 v4 x7) (fun σ28 => ?_)
        refine aw_aload 7 (kk := ?_)
        refine aw_ldcS 89 3 "=======\n" (by decide) (hz := fun h => h.2.2.2.1.2.1) (kk := ?_)
        refine ac_A (st := []) [.ref x7, .ref 3] (ag_V 82 12 rc_Ro_addd wd_1489 cal_Ro_addd wd_1490 wd_1491) cal_Ro_addd ⟨by decide, by decide⟩ (Nat.le_of_ble_eq_true rfl) (m_Ro_addd g F σ28 x7 3) (fun v29 σ30 => ?_)
        refine aw_pop (kk := ?_)
        refine aw_aload_n 0 (kk := ?_)
        refine aw_iconst 2 (v := 2) (kk := ?_)
        refine aw_iload 12 (kk := ?_)
        refine aw_iload 13 (kk := ?_)
        refine aw_aload 7 (kk := ?_)
        refine ac_V (st := []) [.ref x0, .int 2, .int v5, .int v6, .ref x7] (ag_V 85 10 rc_Md_ended wd_1495 cal_Md_ended wd_1497 ws_62) cal_Md_ended ⟨by decide, by decide⟩ (Nat.le_of_ble_eq_true rfl) (m_Md_ended g F σ30 x0 2 v5 v6 x7) (fun σ31 => ?_)
        refine aw_aload 7 (kk := ?_)
        refine aw_ldcS 91 4 ">>>>>>> theirs\n" (by decide) (hz := fun h => h.2.2.2.1.2.2) (kk := ?_)
        refine ac_A (st := []) [.ref x7, .ref 4] (ag_V 82 12 rc_Ro_addd wd_1489 cal_Ro_addd wd_1490 wd_1491) cal_Ro_addd ⟨by decide, by decide⟩ (Nat.le_of_ble_eq_true rfl) (m_Ro_addd g F σ31 x7 4) (fun v32 σ33 => ?_)
        refine aw_pop (kk := ?_)
        refine aw_iconst 1 (v := 1) (kk := ?_)
        exact aw_zretL (by decide)
      · exact am_W.drop [true, false, false, false, false, false, false, true, false, false, true, true, false, false] (b_Md_part_j148 F x0 x7 v3 v4 σ)
  · refine aw_aload 7 (kk := ?_)
    refine aw_aload_n 0 (kk := ?_)
    refine aw_gA 10 8 32 (hw := wd_1163) (kk := fun v34 => ?_)
    refine aw_iconst 2 (v := 2) (kk := ?_)
    refine aw_lA 12 (kk := fun v35 => ?_)
    refine aw_iload 12 (kk := ?_)
    refine aw_iload 13 (kk := ?_)
    refine ac_A (st := []) [.ref x7, .ref v35, .int v5, .int v6] (ag_V 73 12 rc_Ro_addb wd_1434 cal_Ro_addb wd_1317 wd_1318) cal_Ro_addb ⟨by decide, by decide⟩ (Nat.le_of_ble_eq_true rfl) (m_Ro_addb g F σ x7 v35 v5 v6) (fun v36 σ37 => ?_)
    refine aw_pop (kk := ?_)
    refine aw_goto 122 215 (kk := ?_)
    refine aw_iconst 0 (v := 0) (kk := ?_)
    exact aw_zretL (by decide)
def f_Md_merged_l6 (F : Nat) (x0 : Nat) (k22 : am_S → Option (Int32 × am_S)) : Nat → Int32 → am_S → Option (Int32 × am_S)
  | 0, _, _ => none
  | n + 1, x2, σ =>
    if 3 ≤ x2 then
      k22 σ
    else
      (f_Md_cut F σ x0 x2).bind fun σ2 =>
      f_Md_merged_l6 F x0 k22 n (x2 + 1) σ2
theorem b_Md_merged_l6 {g : am_G} {σ0 : am_S} (F : Nat) (x0 : Nat) (x1 : Nat) (k22 : am_S → Option (Int32 × am_S)) (h22 : ∀ (τ : am_S), am_W g mx_Md_merged σ0 22 [some (.ref x0), some (.ref x1), none, none, none, none, none, none, none, none] [] τ (k22 τ) am_kI) : ∀ (n : Nat) (x2 : Int32) (σ : am_S), am_W g mx_Md_merged σ0 6 [some (.ref x0), some (.ref x1), some (.int x2), none, none, none, none, none, none, none] [] σ (f_Md_merged_l6 F x0 k22 n x2 σ) am_kI := by
  intro n
  induction n with
  | zero =>
    intro x2 σ
    rw [f_Md_merged_l6]
    exact am_W.none
  | succ n ih =>
    intro x2 σ
    rw [f_Md_merged_l6]
    refine aw_iload_n 2 (kk := ?_)
    refine aw_iconst 3 (v := 3) (kk := ?_)
    refine aw_icmp_ge 14 22 (kt := fun _ => ?_) (kf := fun _ => ?_)
    · exact am_W.drop [true, true, false, false, false, false, false, false, false, false] (h22 σ)
    · refine aw_aload_n 0 (kk := ?_)
      refine aw_iload_n 2 (kk := ?_)
      refine ac_V (st := []) [.ref x0, .int x2] (ag_V 97 10 rc_Md_cut wd_1435 cal_Md_cut wd_1437 ws_51) cal_Md_cut ⟨by decide, by decide⟩ (Nat.le_of_ble_eq_true rfl) (m_Md_cut g F σ x0 x2) (fun σ2 => ?_)
      refine aw_iinc 2 1 (v := 1) (kk := ?_)
      refine aw_goto (-13) 6 (kk := ?_)
      exact am_W.drop [true, true, true, false, false, false, false, false, false, false] (ih (x2 + 1) σ2)
def f_Md_merged_j256 (F : Nat) (x0 : Nat) (x1 : Nat)  (σ : am_S) : Option (Int32 × am_S) :=
  (am_gA σ 10 8 x0).bind fun v6 =>
  (am_lA σ 12 v6 1).bind fun v7 =>
  am_b2 (f_Ro_set F σ x1 v7) fun v8 σ9 =>
  some (1, σ9)
theorem b_Md_merged_j256 {g : am_G} {σ0 : am_S} (F : Nat) (x0 : Nat) (x1 : Nat)   (σ : am_S) : am_W g mx_Md_merged σ0 256 [some (.ref x0), some (.ref x1), none, none, none, none, none, none, none, none] [] σ (f_Md_merged_j256 F x0 x1 σ) am_kI := by
  unfold f_Md_merged_j256
  refine aw_aload_n 1 (kk := ?_)
  refine aw_aload_n 0 (kk := ?_)
  refine aw_gA 10 8 32 (hw := wd_1163) (kk := fun v6 => ?_)
  refine aw_iconst 1 (v := 1) (kk := ?_)
  refine aw_lA 12 (kk := fun v7 => ?_)
  refine ac_A (st := []) [.ref x1, .ref v7] (ag_V 112 12 rc_Ro_set wd_1307 cal_Ro_set wd_1308 wd_1309) cal_Ro_set ⟨by decide, by decide⟩ (Nat.le_of_ble_eq_true rfl) (m_Ro_set g F σ x1 v7) (fun v8 σ9 => ?_)
  refine aw_pop (kk := ?_)
  refine aw_iconst 1 (v := 1) (kk := ?_)
  exact aw_zretL (by decide)
def f_Md_merged_j241 (F : Nat) (x0 : Nat) (x1 : Nat) (x2 : Int32) (x3 : Int32)  (σ : am_S) : Option (Int32 × am_S) :=
  if x2 = 0 then
    (am_gI σ 12 1 x1).bind fun v10 =>
    if 65536 < v10 then
      f_Md_merged_j256 F x0 x1 σ
    else
      am_z x3 σ
  else
    f_Md_merged_j256 F x0 x1 σ
theorem b_Md_merged_j241 {g : am_G} {σ0 : am_S} (F : Nat) (x0 : Nat) (x1 : Nat) (x2 : Int32) (x3 : Int32)   (σ : am_S) : am_W g mx_Md_merged σ0 241 [some (.ref x0), some (.ref x1), some (.int x2), some (.int x3), none, none, none, none, none, none] [] σ (f_Md_merged_j241 F x0 x1 x2 x3 σ) am_kI := by
  unfold f_Md_merged_j241
  refine aw_iload_n 2 (kk := ?_)
  refine aw_if_ne 14 256 (kt := fun _ => ?_) (kf := fun _ => ?_)
  · exact am_W.drop [true, true, false, false, false, false, false, false, false, false] (b_Md_merged_j256 F x0 x1 σ)
  · refine aw_aload_n 1 (kk := ?_)
    refine aw_gI 12 1 7 (hw := wd_1116) (kk := fun v10 => ?_)
    refine aw_ldc 111 (v := 65536) (hw := wd_1502) (kk := ?_)
    refine aw_icmp_gt 5 256 (kt := fun _ => ?_) (kf := fun _ => ?_)
    · exact am_W.drop [true, true, false, false, false, false, false, false, false, false] (b_Md_merged_j256 F x0 x1 σ)
    · refine aw_iload_n 3 (kk := ?_)
      exact aw_zret
def f_Md_merged_l88 (F : Nat) (x0 : Nat) (x1 : Nat) (k209 : Int32 → Int32 → Int32 → Int32 → am_S → Option (Int32 × am_S)) : Nat → Int32 → Int32 → Int32 → Int32 → Int32 → am_S → Option (Int32 × am_S)
  | 0, _, _, _, _, _, _ => none
  | n + 1, x3, x4, x5, x6, x7, σ =>
    (am_gA σ 10 11 x0).bind fun v14 =>
    (am_lI σ .int v14 0).bind fun v15 =>
    if v15 ≤ x7 then
      k209 x3 x4 x5 x6 σ
    else
      (am_gA σ 10 12 x0).bind fun v16 =>
      (am_lI σ .int v16 (200 + x7)).bind fun v17 =>
      (am_gA σ 10 12 x0).bind fun v18 =>
      (am_lI σ .int v18 (400 + x7)).bind fun v19 =>
      if v17 < 0 then
        f_Md_merged_l88 F x0 x1 k209 n x3 x4 x5 x6 (x7 + 1) σ
      else
        if 0 ≤ v19 then
          am_b2 (f_Md_part F σ x0 x4 x7 x5 v17 x6 v19 x1) fun v20 σ21 =>
          (am_gA σ21 10 8 x0).bind fun v22 =>
          (am_lA σ21 12 v22 0).bind fun v23 =>
          (f_Md_start F σ21 x0 0 x7).bind fun v24 =>
          (f_Md_start F σ21 x0 0 (x7 + 1)).bind fun v25 =>
          am_b2 (f_Ro_addb F σ21 x1 v23 v24 v25) fun v26 σ27 =>
          f_Md_merged_l88 F x0 x1 k209 n (x3 ||| v20) (x7 + 1) (v17 + 1) (v19 + 1) (x7 + 1) σ27
        else
          f_Md_merged_l88 F x0 x1 k209 n x3 x4 x5 x6 (x7 + 1) σ
theorem b_Md_merged_l88 {g : am_G} {σ0 : am_S} (F : Nat) (x0 : Nat) (x1 : Nat) (x2 : Int32) (k209 : Int32 → Int32 → Int32 → Int32 → am_S → Option (Int32 × am_S)) (h209 : ∀ (y3 : Int32) (y4 : Int32) (y5 : Int32) (y6 : Int32)  (τ : am_S), am_W g mx_Md_merged σ0 209 [some (.ref x0), some (.ref x1), some (.int x2), some (.int y3), some (.int y4), some (.int y5), some (.int y6), none, none, none] [] τ (k209 y3 y4 y5 y6 τ) am_kI) : ∀ (n : Nat) (x3 : Int32) (x4 : Int32) (x5 : Int32) (x6 : Int32) (x7 : Int32) (σ : am_S), am_W g mx_Md_merged σ0 88 [some (.ref x0), some (.ref x1), some (.int x2), some (.int x3), some (.int x4), some (.int x5), some (.int x6), some (.int x7), none, none] [] σ (f_Md_merged_l88 F x0 x1 k209 n x3 x4 x5 x6 x7 σ) am_kI := by
  intro n
  induction n with
  | zero =>
    intro x3 x4 x5 x6 x7 σ
    rw [f_Md_merged_l88]
    exact am_W.none
  | succ n ih =>
    intro x3 x4 x5 x6 x7 σ
    rw [f_Md_merged_l88]
    refine aw_iload 7 (kk := ?_)
    refine aw_aload_n 0 (kk := ?_)
    refine aw_gA 10 11 39 (hw := wd_1166) (kk := fun v14 => ?_)
    refine aw_iconst 0 (v := 0) (kk := ?_)
    refine aw_lI (kk := fun v15 => ?_)
    refine aw_icmp_ge 113 209 (kt := fun _ => ?_) (kf := fun _ => ?_)
    · exact am_W.drop [true, true, true, true, true, true, true, false, false, false] (h209 x3 x4 x5 x6 σ)
    · refine aw_aload_n 0 (kk := ?_)
      refine aw_gA 10 12 66 (hw := wd_1167) (kk := fun v16 => ?_)
      refine aw_sipush 200 (v := 200) (kk := ?_)
      refine aw_iload 7 (kk := ?_)
      refine aw_iadd (kk := ?_)
      refine aw_lI (kk := fun v17 => ?_)
      refine aw_istore 8 (kk := ?_)
      refine aw_aload_n 0 (kk := ?_)
      refine aw_gA 10 12 66 (hw := wd_1167) (kk := fun v18 => ?_)
      refine aw_sipush 400 (v := 400) (kk := ?_)
      refine aw_iload 7 (kk := ?_)
      refine aw_iadd (kk := ?_)
      refine aw_lI (kk := fun v19 => ?_)
      refine aw_istore 9 (kk := ?_)
      refine aw_iload 8 (kk := ?_)
      refine aw_if_lt 76 203 (kt := fun _ => ?_) (kf := fun _ => ?_)
      · refine aw_iinc 7 1 (v := 1) (kk := ?_)
        refine aw_goto (-118) 88 (kk := ?_)
        exact am_W.drop [true, true, true, true, true, true, true, true, false, false] (ih x3 x4 x5 x6 (x7 + 1) σ)
      · refine aw_iload 9 (kk := ?_)
        refine aw_if_ge 6 138 (kt := fun _ => ?_) (kf := fun _ => ?_)
        · refine aw_iload_n 3 (kk := ?_)
          refine aw_aload_n 0 (kk := ?_)
          refine aw_iload 4 (kk := ?_)
          refine aw_iload 7 (kk := ?_)
          refine aw_iload 5 (kk := ?_)
          refine aw_iload 8 (kk := ?_)
          refine aw_iload 6 (kk := ?_)
          refine aw_iload 9 (kk := ?_)
          refine aw_aload_n 1 (kk := ?_)
          refine ac_I (st := [.int x3]) [.ref x0, .int x4, .int x7, .int x5, .int v17, .int x6, .int v19, .ref x1] (ag_V 107 10 rc_Md_part wd_1484 cal_Md_part wd_1486 ws_61) cal_Md_part ⟨by decide, by decide⟩ (Nat.le_of_ble_eq_true rfl) (m_Md_part g F σ x0 x4 x7 x5 v17 x6 v19 x1) (fun v20 σ21 => ?_)
          refine aw_ior (kk := ?_)
          refine aw_istore_n 3 (kk := ?_)
          refine aw_aload_n 1 (kk := ?_)
          refine aw_aload_n 0 (kk := ?_)
          refine aw_gA 10 8 32 (hw := wd_1163) (kk := fun v22 => ?_)
          refine aw_iconst 0 (v := 0) (kk := ?_)
          refine aw_lA 12 (kk := fun v23 => ?_)
          refine aw_aload_n 0 (kk := ?_)
          refine aw_iconst 0 (v := 0) (kk := ?_)
          refine aw_iload 7 (kk := ?_)
          refine ac_PI (st := [.ref v23, .ref x1]) [.ref x0, .int 0, .int x7] (ag_V 46 10 rc_Md_start wd_1447 cal_Md_start wd_1449 ws_54) cal_Md_start ⟨by decide, by decide⟩ (Nat.le_of_ble_eq_true rfl) (m_Md_start g F σ21 x0 0 x7) (fun v24 => ?_)
          refine aw_aload_n 0 (kk := ?_)
          refine aw_iconst 0 (v := 0) (kk := ?_)
          refine aw_iload 7 (kk := ?_)
          refine aw_iconst 1 (v := 1) (kk := ?_)
          refine aw_iadd (kk := ?_)
          refine ac_PI (st := [.int v24, .ref v23, .ref x1]) [.ref x0, .int 0, .int (x7 + 1)] (ag_V 46 10 rc_Md_start wd_1447 cal_Md_start wd_1449 ws_54) cal_Md_start ⟨by decide, by decide⟩ (Nat.le_of_ble_eq_true rfl) (m_Md_start g F σ21 x0 0 (x7 + 1)) (fun v25 => ?_)
          refine ac_A (st := []) [.ref x1, .ref v23, .int v24, .int v25] (ag_V 73 12 rc_Ro_addb wd_1434 cal_Ro_addb wd_1317 wd_1318) cal_Ro_addb ⟨by decide, by decide⟩ (Nat.le_of_ble_eq_true rfl) (m_Ro_addb g F σ21 x1 v23 v24 v25) (fun v26 σ27 => ?_)
          refine aw_pop (kk := ?_)
          refine aw_iload 7 (kk := ?_)
          refine aw_iconst 1 (v := 1) (kk := ?_)
          refine aw_iadd (kk := ?_)
          refine aw_istore 4 (kk := ?_)
          refine aw_iload 8 (kk := ?_)
          refine aw_iconst 1 (v := 1) (kk := ?_)
          refine aw_iadd (kk := ?_)
          refine aw_istore 5 (kk := ?_)
          refine aw_iload 9 (kk := ?_)
          refine aw_iconst 1 (v := 1) (kk := ?_)
          refine aw_iadd (kk := ?_)
          refine aw_istore 6 (kk := ?_)
          refine aw_iinc 7 1 (v := 1) (kk := ?_)
          refine aw_goto (-118) 88 (kk := ?_)
          exact am_W.drop [true, true, true, true, true, true, true, true, false, false] (ih (x3 ||| v20) (x7 + 1) (v17 + 1) (v19 + 1) (x7 + 1) σ27)
        · refine aw_goto 68 203 (kk := ?_)
          refine aw_iinc 7 1 (v := 1) (kk := ?_)
          refine aw_goto (-118) 88 (kk := ?_)
          exact am_W.drop [true, true, true, true, true, true, true, true, false, false] (ih x3 x4 x5 x6 (x7 + 1) σ)
def f_Md_merged_j209 (F : Nat) (x0 : Nat) (x1 : Nat) (x2 : Int32) (x3 : Int32) (x4 : Int32) (x5 : Int32) (x6 : Int32)  (σ : am_S) : Option (Int32 × am_S) :=
  (am_gA σ 10 11 x0).bind fun v28 =>
  (am_lI σ .int v28 0).bind fun v29 =>
  (am_gA σ 10 11 x0).bind fun v30 =>
  (am_lI σ .int v30 1).bind fun v31 =>
  (am_gA σ 10 11 x0).bind fun v32 =>
  (am_lI σ .int v32 2).bind fun v33 =>
  am_b2 (f_Md_part F σ x0 x4 v29 x5 v31 x6 v33 x1) fun v34 σ35 =>
  f_Md_merged_j241 F x0 x1 x2 (x3 ||| v34) σ35
theorem b_Md_merged_j209 {g : am_G} {σ0 : am_S} (F : Nat) (x0 : Nat) (x1 : Nat) (x2 : Int32) (x3 : Int32) (x4 : Int32) (x5 : Int32) (x6 : Int32)   (σ : am_S) : am_W g mx_Md_merged σ0 209 [some (.ref x0), some (.ref x1), some (.int x2), some (.int x3), some (.int x4), some (.int x5), some (.int x6), none, none, none] [] σ (f_Md_merged_j209 F x0 x1 x2 x3 x4 x5 x6 σ) am_kI := by
  unfold f_Md_merged_j209
  refine aw_iload_n 3 (kk := ?_)
  refine aw_aload_n 0 (kk := ?_)
  refine aw_iload 4 (kk := ?_)
  refine aw_aload_n 0 (kk := ?_)
  refine aw_gA 10 11 39 (hw := wd_1166) (kk := fun v28 => ?_)
  refine aw_iconst 0 (v := 0) (kk := ?_)
  refine aw_lI (kk := fun v29 => ?_)
  refine aw_iload 5 (kk := ?_)
  refine aw_aload_n 0 (kk := ?_)
  refine aw_gA 10 11 39 (hw := wd_1166) (kk := fun v30 => ?_)
  refine aw_iconst 1 (v := 1) (kk := ?_)
  refine aw_lI (kk := fun v31 => ?_)
  refine aw_iload 6 (kk := ?_)
  refine aw_aload_n 0 (kk := ?_)
  refine aw_gA 10 11 39 (hw := wd_1166) (kk := fun v32 => ?_)
  refine aw_iconst 2 (v := 2) (kk := ?_)
  refine aw_lI (kk := fun v33 => ?_)
  refine aw_aload_n 1 (kk := ?_)
  refine ac_I (st := [.int x3]) [.ref x0, .int x4, .int v29, .int x5, .int v31, .int x6, .int v33, .ref x1] (ag_V 107 10 rc_Md_part wd_1484 cal_Md_part wd_1486 ws_61) cal_Md_part ⟨by decide, by decide⟩ (Nat.le_of_ble_eq_true rfl) (m_Md_part g F σ x0 x4 v29 x5 v31 x6 v33 x1) (fun v34 σ35 => ?_)
  refine aw_ior (kk := ?_)
  refine aw_istore_n 3 (kk := ?_)
  exact am_W.drop [true, true, true, true, false, false, false, false, false, false] (b_Md_merged_j241 F x0 x1 x2 (x3 ||| v34) σ35)
def f_Md_merged_j54 (F : Nat) (x0 : Nat) (x1 : Nat) (t5 : Int32)  (σ : am_S) : Option (Int32 × am_S) :=
  if t5 = 0 then
    (f_Md_sort F σ x0 3).bind fun σ11 =>
    (f_Md_pair F σ11 x0 1).bind fun σ12 =>
    (f_Md_pair F σ12 x0 2).bind fun σ13 =>
    f_Md_merged_l88 F x0 x1 (fun y3 y4 y5 y6 τ => f_Md_merged_j209 F x0 x1 t5 y3 y4 y5 y6 τ) F 0 0 0 0 0 σ13
  else
    f_Md_merged_j241 F x0 x1 t5 0 σ
theorem b_Md_merged_j54 {g : am_G} {σ0 : am_S} (F : Nat) (x0 : Nat) (x1 : Nat) (t5 : Int32)   (σ : am_S) : am_W g mx_Md_merged σ0 54 [some (.ref x0), some (.ref x1), none, none, none, none, none, none, none, none] [.int t5] σ (f_Md_merged_j54 F x0 x1 t5 σ) am_kI := by
  unfold f_Md_merged_j54
  refine aw_istore_n 2 (kk := ?_)
  refine aw_iconst 0 (v := 0) (kk := ?_)
  refine aw_istore_n 3 (kk := ?_)
  refine aw_iload_n 2 (kk := ?_)
  refine aw_if_ne 183 241 (kt := fun _ => ?_) (kf := fun _ => ?_)
  · exact am_W.drop [true, true, true, true, false, false, false, false, false, false] (b_Md_merged_j241 F x0 x1 t5 0 σ)
  · refine aw_aload_n 0 (kk := ?_)
    refine aw_iconst 3 (v := 3) (kk := ?_)
    refine ac_V (st := []) [.ref x0, .int 3] (ag_V 101 10 rc_Md_sort wd_1439 cal_Md_sort wd_1441 ws_52) cal_Md_sort ⟨by decide, by decide⟩ (Nat.le_of_ble_eq_true rfl) (m_Md_sort g F σ x0 3) (fun σ11 => ?_)
    refine aw_aload_n 0 (kk := ?_)
    refine aw_iconst 1 (v := 1) (kk := ?_)
    refine ac_V (st := []) [.ref x0, .int 1] (ag_V 104 10 rc_Md_pair wd_1476 cal_Md_pair wd_1478 ws_59) cal_Md_pair ⟨by decide, by decide⟩ (Nat.le_of_ble_eq_true rfl) (m_Md_pair g F σ11 x0 1) (fun σ12 => ?_)
    refine aw_aload_n 0 (kk := ?_)
    refine aw_iconst 2 (v := 2) (kk := ?_)
    refine ac_V (st := []) [.ref x0, .int 2] (ag_V 104 10 rc_Md_pair wd_1476 cal_Md_pair wd_1478 ws_59) cal_Md_pair ⟨by decide, by decide⟩ (Nat.le_of_ble_eq_true rfl) (m_Md_pair g F σ12 x0 2) (fun σ13 => ?_)
    refine aw_iconst 0 (v := 0) (kk := ?_)
    refine aw_istore 4 (kk := ?_)
    refine aw_iconst 0 (v := 0) (kk := ?_)
    refine aw_istore 5 (kk := ?_)
    refine aw_iconst 0 (v := 0) (kk := ?_)
    refine aw_istore 6 (kk := ?_)
    refine aw_iconst 0 (v := 0) (kk := ?_)
    refine aw_istore 7 (kk := ?_)
    exact am_W.drop [true, true, true, true, true, true, true, true, false, false] (b_Md_merged_l88 F x0 x1 t5 (fun y3 y4 y5 y6 τ => f_Md_merged_j209 F x0 x1 t5 y3 y4 y5 y6 τ) (fun y3 y4 y5 y6 τ => am_W.drop [true, true, true, true, true, true, true, false, false, false] (b_Md_merged_j209 F x0 x1 t5 y3 y4 y5 y6 τ)) F 0 0 0 0 0 σ13)
def f_Md_merged_j49 (F : Nat) (x0 : Nat) (x1 : Nat)  (σ : am_S) : Option (Int32 × am_S) :=
  f_Md_merged_j54 F x0 x1 1 σ
theorem b_Md_merged_j49 {g : am_G} {σ0 : am_S} (F : Nat) (x0 : Nat) (x1 : Nat)   (σ : am_S) : am_W g mx_Md_merged σ0 49 [some (.ref x0), some (.ref x1), none, none, none, none, none, none, none, none] [] σ (f_Md_merged_j49 F x0 x1 σ) am_kI := by
  unfold f_Md_merged_j49
  refine aw_iconst 1 (v := 1) (kk := ?_)
  refine aw_goto 4 54 (kk := ?_)
  exact am_W.drop [true, true, false, false, false, false, false, false, false, false] (b_Md_merged_j54 F x0 x1 1 σ)
def f_Md_merged_j22 (F : Nat) (x0 : Nat) (x1 : Nat)  (σ : am_S) : Option (Int32 × am_S) :=
  (am_gA σ 10 11 x0).bind fun v3 =>
  (am_lI σ .int v3 0).bind fun v4 =>
  if v4 < 0 then
    f_Md_merged_j49 F x0 x1 σ
  else
    (am_gA σ 10 11 x0).bind fun v36 =>
    (am_lI σ .int v36 1).bind fun v37 =>
    if v37 < 0 then
      f_Md_merged_j49 F x0 x1 σ
    else
      (am_gA σ 10 11 x0).bind fun v38 =>
      (am_lI σ .int v38 2).bind fun v39 =>
      if 0 ≤ v39 then
        f_Md_merged_j54 F x0 x1 0 σ
      else
        f_Md_merged_j49 F x0 x1 σ
theorem b_Md_merged_j22 {g : am_G} {σ0 : am_S} (F : Nat) (x0 : Nat) (x1 : Nat)   (σ : am_S) : am_W g mx_Md_merged σ0 22 [some (.ref x0), some (.ref x1), none, none, none, none, none, none, none, none] [] σ (f_Md_merged_j22 F x0 x1 σ) am_kI := by
  unfold f_Md_merged_j22
  refine aw_aload_n 0 (kk := ?_)
  refine aw_gA 10 11 39 (hw := wd_1166) (kk := fun v3 => ?_)
  refine aw_iconst 0 (v := 0) (kk := ?_)
  refine aw_lI (kk := fun v4 => ?_)
  refine aw_if_lt 21 49 (kt := fun _ => ?_) (kf := fun _ => ?_)
  · exact am_W.drop [true, true, false, false, false, false, false, false, false, false] (b_Md_merged_j49 F x0 x1 σ)
  · refine aw_aload_n 0 (kk := ?_)
    refine aw_gA 10 11 39 (hw := wd_1166) (kk := fun v36 => ?_)
    refine aw_iconst 1 (v := 1) (kk := ?_)
    refine aw_lI (kk := fun v37 => ?_)
    refine aw_if_lt 12 49 (kt := fun _ => ?_) (kf := fun _ => ?_)
    · exact am_W.drop [true, true, false, false, false, false, false, false, false, false] (b_Md_merged_j49 F x0 x1 σ)
    · refine aw_aload_n 0 (kk := ?_)
      refine aw_gA 10 11 39 (hw := wd_1166) (kk := fun v38 => ?_)
      refine aw_iconst 2 (v := 2) (kk := ?_)
      refine aw_lI (kk := fun v39 => ?_)
      refine aw_if_ge 7 53 (kt := fun _ => ?_) (kf := fun _ => ?_)
      · refine aw_iconst 0 (v := 0) (kk := ?_)
        exact am_W.drop [true, true, false, false, false, false, false, false, false, false] (b_Md_merged_j54 F x0 x1 0 σ)
      · exact am_W.drop [true, true, false, false, false, false, false, false, false, false] (b_Md_merged_j49 F x0 x1 σ)
def f_Md_merged (F : Nat) (σ : am_S) (x0 : Nat) (x1 : Nat) : Option (Int32 × am_S) :=
  am_ck σ 10 x0 (
  (f_Ro_clear F σ x1).bind fun σ1 =>
  f_Md_merged_l6 F x0 (fun τ => f_Md_merged_j22 F x0 x1 τ) F 0 σ1)
theorem rc_Md_merged {F : Nat} {σ : am_S} {x0 : Nat} {x1 : Nat} (h : (f_Md_merged F σ x0 x1).isSome = true) : ∃ fs, σ.2.2 x0 = some (.inr (10, fs)) := am_ck_some h
theorem m_Md_merged (g : am_G) (F : Nat) (σ : am_S) (x0 : Nat) (x1 : Nat) : am_Met g mx_Md_merged [.ref x0, .ref x1] σ ((f_Md_merged F σ x0 x1).bind am_kI) := by
  refine am_Met.of (lv := [some (.ref x0), some (.ref x1), none, none, none, none, none, none, none, none]) (am_cc rfl (am_cc rfl am_c0)) (Nat.le_of_ble_eq_true rfl) rfl (by decide) ?_
  unfold f_Md_merged
  refine am_W.ck ?_
  refine aw_aload_n 1 (kk := ?_)
  refine ac_V (st := []) [.ref x1] (ag_V 93 12 rc_Ro_clear wd_1320 cal_Ro_clear wd_1152 wd_1153) cal_Ro_clear ⟨by decide, by decide⟩ (Nat.le_of_ble_eq_true rfl) (m_Ro_clear g F σ x1) (fun σ1 => ?_)
  refine aw_iconst 0 (v := 0) (kk := ?_)
  refine aw_istore_n 2 (kk := ?_)
  exact am_W.drop [true, true, true, false, false, false, false, false, false, false] (b_Md_merged_l6 F x0 x1 (fun τ => f_Md_merged_j22 F x0 x1 τ) (fun τ => am_W.drop [true, true, false, false, false, false, false, false, false, false] (b_Md_merged_j22 F x0 x1 τ)) F 0 σ1)
def f_Md_many_l5 (σ : am_S) (F : Nat) (x0 : Nat) (x1 : Int32) (x2 : Int32)  : Nat → Int32 → Int32 → Option (Int32)
  | 0, _, _ => none
  | n + 1, x3, x4 =>
    (am_gA σ 10 11 x0).bind fun v1 =>
    (am_lI σ .int v1 x1).bind fun v2 =>
    if v2 ≤ x4 then
      some x3
    else
      (am_gA σ 10 10 x0).bind fun v3 =>
      (am_lI σ .int v3 ((x1 * 200) + x4)).bind fun v4 =>
      if v4 = x2 then
        f_Md_many_l5 σ F x0 x1 x2 n (x3 + 1) (x4 + 1)
      else
        f_Md_many_l5 σ F x0 x1 x2 n x3 (x4 + 1)
theorem b_Md_many_l5 {g : am_G} {σ0 σ : am_S} (F : Nat) (x0 : Nat) (x1 : Int32) (x2 : Int32)   : ∀ (n : Nat) (x3 : Int32) (x4 : Int32), am_W g mx_Md_many σ0 5 [some (.ref x0), some (.int x1), some (.int x2), some (.int x3), some (.int x4)] [] σ (f_Md_many_l5 σ F x0 x1 x2 n x3 x4) (am_kPI σ) := by
  intro n
  induction n with
  | zero =>
    intro x3 x4
    rw [f_Md_many_l5]
    exact am_W.none
  | succ n ih =>
    intro x3 x4
    rw [f_Md_many_l5]
    refine aw_iload 4 (kk := ?_)
    refine aw_aload_n 0 (kk := ?_)
    refine aw_gA 10 11 39 (hw := wd_1166) (kk := fun v1 => ?_)
    refine aw_iload_n 1 (kk := ?_)
    refine aw_lI (kk := fun v2 => ?_)
    refine aw_icmp_ge 29 42 (kt := fun _ => ?_) (kf := fun _ => ?_)
    · refine aw_iload_n 3 (kk := ?_)
      exact aw_iretP
    · refine aw_aload_n 0 (kk := ?_)
      refine aw_gA 10 10 57 (hw := wd_1165) (kk := fun v3 => ?_)
      refine aw_iload_n 1 (kk := ?_)
      refine aw_sipush 200 (v := 200) (kk := ?_)
      refine aw_imul (kk := ?_)
      refine aw_iload 4 (kk := ?_)
      refine aw_iadd (kk := ?_)
      refine aw_lI (kk := fun v4 => ?_)
      refine aw_iload_n 2 (kk := ?_)
      refine aw_icmp_ne 6 36 (kt := fun _ => ?_) (kf := fun _ => ?_)
      · refine aw_iinc 4 1 (v := 1) (kk := ?_)
        refine aw_goto (-34) 5 (kk := ?_)
        exact am_W.drop [true, true, true, true, true] (ih x3 (x4 + 1))
      · refine aw_iinc 3 1 (v := 1) (kk := ?_)
        refine aw_iinc 4 1 (v := 1) (kk := ?_)
        refine aw_goto (-34) 5 (kk := ?_)
        exact am_W.drop [true, true, true, true, true] (ih (x3 + 1) (x4 + 1))
def f_Md_many (F : Nat) (σ : am_S) (x0 : Nat) (x1 : Int32) (x2 : Int32) : Option (Int32) :=
  am_ck σ 10 x0 (
  f_Md_many_l5 σ F x0 x1 x2 F 0 0)
theorem rc_Md_many {F : Nat} {σ : am_S} {x0 : Nat} {x1 : Int32} {x2 : Int32} (h : (f_Md_many F σ x0 x1 x2).isSome = true) : ∃ fs, σ.2.2 x0 = some (.inr (10, fs)) := am_ck_some h
theorem m_Md_many (g : am_G) (F : Nat) (σ : am_S) (x0 : Nat) (x1 : Int32) (x2 : Int32) : am_Met g mx_Md_many [.ref x0, .int x1, .int x2] σ ((f_Md_many F σ x0 x1 x2).bind (am_kPI σ)) := by
  refine am_Met.of (lv := [some (.ref x0), some (.int x1), some (.int x2), none, none]) (am_cc rfl (am_cc rfl (am_cc rfl am_c0))) (Nat.le_of_ble_eq_true rfl) rfl (by decide) ?_
  unfold f_Md_many
  refine am_W.ck ?_
  refine aw_iconst 0 (v := 0) (kk := ?_)
  refine aw_istore_n 3 (kk := ?_)
  refine aw_iconst 0 (v := 0) (kk := ?_)
  refine aw_istore 4 (kk := ?_)
  exact am_W.drop [true, true, true, true, true] (b_Md_many_l5 F x0 x1 x2 F 0 0)
def f_Md_blobText_j31 (F : Nat) (x0 : Nat) (x1 : Int32) (x2 : Nat)  (σ : am_S) : Option (am_S) :=
  if (-1) ≤ x1 then
    some σ
  else
    (am_gA σ 10 30 x0).bind fun v2 =>
    (am_gA σ 10 32 x0).bind fun v3 =>
    (am_lI σ .int v3 ((-2) - x1)).bind fun v4 =>
    (am_gA σ 10 32 x0).bind fun v5 =>
    (am_lI σ .int v5 ((-1) - x1)).bind fun v6 =>
    am_b2 (f_Ro_addb F σ x2 v2 v4 v6) fun v7 σ8 =>
    some σ8
theorem b_Md_blobText_j31 {g : am_G} {σ0 : am_S} (F : Nat) (x0 : Nat) (x1 : Int32) (x2 : Nat)   (σ : am_S) : am_W g mx_Md_blobText σ0 31 [some (.ref x0), some (.int x1), some (.ref x2)] [] σ (f_Md_blobText_j31 F x0 x1 x2 σ) am_kV := by
  unfold f_Md_blobText_j31
  refine aw_iload_n 1 (kk := ?_)
  refine aw_iconst (-1) (v := (-1)) (kk := ?_)
  refine aw_icmp_ge 29 62 (kt := fun _ => ?_) (kf := fun _ => ?_)
  · exact aw_vret
  · refine aw_aload_n 2 (kk := ?_)
    refine aw_aload_n 0 (kk := ?_)
    refine aw_gA 10 30 151 (hw := wd_1185) (kk := fun v2 => ?_)
    refine aw_aload_n 0 (kk := ?_)
    refine aw_gA 10 32 154 (hw := wd_1187) (kk := fun v3 => ?_)
    refine aw_bipush (-2) (v := (-2)) (kk := ?_)
    refine aw_iload_n 1 (kk := ?_)
    refine aw_isub (kk := ?_)
    refine aw_lI (kk := fun v4 => ?_)
    refine aw_aload_n 0 (kk := ?_)
    refine aw_gA 10 32 154 (hw := wd_1187) (kk := fun v5 => ?_)
    refine aw_iconst (-1) (v := (-1)) (kk := ?_)
    refine aw_iload_n 1 (kk := ?_)
    refine aw_isub (kk := ?_)
    refine aw_lI (kk := fun v6 => ?_)
    refine ac_A (st := []) [.ref x2, .ref v2, .int v4, .int v6] (ag_V 73 12 rc_Ro_addb wd_1434 cal_Ro_addb wd_1317 wd_1318) cal_Ro_addb ⟨by decide, by decide⟩ (Nat.le_of_ble_eq_true rfl) (m_Ro_addb g F σ x2 v2 v4 v6) (fun v7 σ8 => ?_)
    refine aw_pop (kk := ?_)
    exact aw_vret
def f_Md_blobText (F : Nat) (σ : am_S) (x0 : Nat) (x1 : Int32) (x2 : Nat) : Option (am_S) :=
  am_ck σ 10 x0 (
  (f_Ro_clear F σ x2).bind fun σ1 =>
  if x1 < 0 then
    f_Md_blobText_j31 F x0 x1 x2 σ1
  else
    (am_gA σ1 10 2 x0).bind fun v9 =>
    (am_gA σ1 10 3 x0).bind fun v10 =>
    (am_lI σ1 .int v10 x1).bind fun v11 =>
    (am_gA σ1 10 3 x0).bind fun v12 =>
    (am_lI σ1 .int v12 (x1 + 1)).bind fun v13 =>
    am_b2 (f_Ro_addb F σ1 x2 v9 v11 v13) fun v14 σ15 =>
    f_Md_blobText_j31 F x0 x1 x2 σ15)
theorem rc_Md_blobText {F : Nat} {σ : am_S} {x0 : Nat} {x1 : Int32} {x2 : Nat} (h : (f_Md_blobText F σ x0 x1 x2).isSome = true) : ∃ fs, σ.2.2 x0 = some (.inr (10, fs)) := am_ck_some h
theorem m_Md_blobText (g : am_G) (F : Nat) (σ : am_S) (x0 : Nat) (x1 : Int32) (x2 : Nat) : am_Met g mx_Md_blobText [.ref x0, .int x1, .ref x2] σ ((f_Md_blobText F σ x0 x1 x2).bind am_kV) := by
  refine am_Met.of (lv := [some (.ref x0), some (.int x1), some (.ref x2)]) (am_cc rfl (am_cc rfl (am_cc rfl am_c0))) (Nat.le_of_ble_eq_true rfl) rfl (by decide) ?_
  unfold f_Md_blobText
  refine am_W.ck ?_
  refine aw_aload_n 2 (kk := ?_)
  refine ac_V (st := []) [.ref x2] (ag_V 93 12 rc_Ro_clear wd_1320 cal_Ro_clear wd_1152 wd_1153) cal_Ro_clear ⟨by decide, by decide⟩ (Nat.le_of_ble_eq_true rfl) (m_Ro_clear g F σ x2) (fun σ1 => ?_)
  refine aw_iload_n 1 (kk := ?_)
  refine aw_if_lt 26 31 (kt := fun _ => ?_) (kf := fun _ => ?_)
  · exact am_W.drop [true, true, true] (b_Md_blobText_j31 F x0 x1 x2 σ1)
  · refine aw_aload_n 2 (kk := ?_)
    refine aw_aload_n 0 (kk := ?_)
    refine aw_gA 10 2 20 (hw := wd_1157) (kk := fun v9 => ?_)
    refine aw_aload_n 0 (kk := ?_)
    refine aw_gA 10 3 24 (hw := wd_1158) (kk := fun v10 => ?_)
    refine aw_iload_n 1 (kk := ?_)
    refine aw_lI (kk := fun v11 => ?_)
    refine aw_aload_n 0 (kk := ?_)
    refine aw_gA 10 3 24 (hw := wd_1158) (kk := fun v12 => ?_)
    refine aw_iload_n 1 (kk := ?_)
    refine aw_iconst 1 (v := 1) (kk := ?_)
    refine aw_iadd (kk := ?_)
    refine aw_lI (kk := fun v13 => ?_)
    refine ac_A (st := []) [.ref x2, .ref v9, .int v11, .int v13] (ag_V 73 12 rc_Ro_addb wd_1434 cal_Ro_addb wd_1317 wd_1318) cal_Ro_addb ⟨by decide, by decide⟩ (Nat.le_of_ble_eq_true rfl) (m_Ro_addb g F σ1 x2 v9 v11 v13) (fun v14 σ15 => ?_)
    refine aw_pop (kk := ?_)
    exact am_W.drop [true, true, true] (b_Md_blobText_j31 F x0 x1 x2 σ15)
def f_Md_score_l79 (F : Nat) (x0 : Nat) (x4 : Int32) (k112 : Int32 → am_S → Option (Int32 × am_S)) : Nat → Int32 → Int32 → am_S → Option (Int32 × am_S)
  | 0, _, _, _ => none
  | n + 1, x5, x6, σ =>
    if x4 ≤ x6 then
      k112 x5 σ
    else
      (am_gA σ 10 10 x0).bind fun v16 =>
      (am_lI σ .int v16 x6).bind fun v17 =>
      (am_gA σ 10 10 x0).bind fun v18 =>
      (am_lI σ .int v18 x4).bind fun v19 =>
      if v17 = v19 then
        f_Md_score_l79 F x0 x4 k112 n (x5 + 1) (x6 + 1) σ
      else
        f_Md_score_l79 F x0 x4 k112 n x5 (x6 + 1) σ
theorem b_Md_score_l79 {g : am_G} {σ0 : am_S} (F : Nat) (x0 : Nat) (x3 : Int32) (x4 : Int32) (k112 : Int32 → am_S → Option (Int32 × am_S)) (h112 : ∀ (y5 : Int32)  (τ : am_S), am_W g mx_Md_score σ0 112 [some (.ref x0), none, none, some (.int x3), some (.int x4), some (.int y5), none] [] τ (k112 y5 τ) am_kI) : ∀ (n : Nat) (x5 : Int32) (x6 : Int32) (σ : am_S), am_W g mx_Md_score σ0 79 [some (.ref x0), none, none, some (.int x3), some (.int x4), some (.int x5), some (.int x6)] [] σ (f_Md_score_l79 F x0 x4 k112 n x5 x6 σ) am_kI := by
  intro n
  induction n with
  | zero =>
    intro x5 x6 σ
    rw [f_Md_score_l79]
    exact am_W.none
  | succ n ih =>
    intro x5 x6 σ
    rw [f_Md_score_l79]
    refine aw_iload 6 (kk := ?_)
    refine aw_iload 4 (kk := ?_)
    refine aw_icmp_ge 29 112 (kt := fun _ => ?_) (kf := fun _ => ?_)
    · exact am_W.drop [true, false, false, true, true, true, false] (h112 x5 σ)
    · refine aw_aload_n 0 (kk := ?_)
      refine aw_gA 10 10 57 (hw := wd_1165) (kk := fun v16 => ?_)
      refine aw_iload 6 (kk := ?_)
      refine aw_lI (kk := fun v17 => ?_)
      refine aw_aload_n 0 (kk := ?_)
      refine aw_gA 10 10 57 (hw := wd_1165) (kk := fun v18 => ?_)
      refine aw_iload 4 (kk := ?_)
      refine aw_lI (kk := fun v19 => ?_)
      refine aw_icmp_ne 6 106 (kt := fun _ => ?_) (kf := fun _ => ?_)
      · refine aw_iinc 6 1 (v := 1) (kk := ?_)
        refine aw_goto (-30) 79 (kk := ?_)
        exact am_W.drop [true, false, false, true, true, true, true] (ih x5 (x6 + 1) σ)
      · refine aw_iinc 5 1 (v := 1) (kk := ?_)
        refine aw_iinc 6 1 (v := 1) (kk := ?_)
        refine aw_goto (-30) 79 (kk := ?_)
        exact am_W.drop [true, false, false, true, true, true, true] (ih (x5 + 1) (x6 + 1) σ)
def f_Md_score_j112 (F : Nat) (x0 : Nat) (x3 : Int32) (x4 : Int32) (x5 : Int32) (k62 : Int32 → Int32 → am_S → Option (Int32 × am_S)) (σ : am_S) : Option (Int32 × am_S) :=
  (am_gA σ 10 10 x0).bind fun v20 =>
  (am_lI σ .int v20 x4).bind fun v21 =>
  (f_Md_many F σ x0 1 v21).bind fun v22 =>
  if v22 ≤ x5 then
    k62 x3 (x4 + 1) σ
  else
    (f_Md_start F σ x0 0 (x4 + 1)).bind fun v23 =>
    (f_Md_start F σ x0 0 x4).bind fun v24 =>
    k62 (x3 + (v23 - v24)) (x4 + 1) σ
theorem b_Md_score_j112 {g : am_G} {σ0 : am_S} (F : Nat) (x0 : Nat) (x3 : Int32) (x4 : Int32) (x5 : Int32) (k62 : Int32 → Int32 → am_S → Option (Int32 × am_S)) (h62 : ∀ (y3 : Int32) (y4 : Int32)  (τ : am_S), am_W g mx_Md_score σ0 62 [some (.ref x0), none, none, some (.int y3), some (.int y4), none, none] [] τ (k62 y3 y4 τ) am_kI) (σ : am_S) : am_W g mx_Md_score σ0 112 [some (.ref x0), none, none, some (.int x3), some (.int x4), some (.int x5), none] [] σ (f_Md_score_j112 F x0 x3 x4 x5 k62 σ) am_kI := by
  unfold f_Md_score_j112
  refine aw_iload 5 (kk := ?_)
  refine aw_aload_n 0 (kk := ?_)
  refine aw_iconst 1 (v := 1) (kk := ?_)
  refine aw_aload_n 0 (kk := ?_)
  refine aw_gA 10 10 57 (hw := wd_1165) (kk := fun v20 => ?_)
  refine aw_iload 4 (kk := ?_)
  refine aw_lI (kk := fun v21 => ?_)
  refine ac_PI (st := [.int x5]) [.ref x0, .int 1, .int v21] (ag_V 120 10 rc_Md_many wd_1454 cal_Md_many wd_1456 ws_55) cal_Md_many ⟨by decide, by decide⟩ (Nat.le_of_ble_eq_true rfl) (m_Md_many g F σ x0 1 v21) (fun v22 => ?_)
  refine aw_icmp_ge 23 149 (kt := fun _ => ?_) (kf := fun _ => ?_)
  · refine aw_iinc 4 1 (v := 1) (kk := ?_)
    refine aw_goto (-90) 62 (kk := ?_)
    exact am_W.drop [true, false, false, true, true, false, false] (h62 x3 (x4 + 1) σ)
  · refine aw_iload_n 3 (kk := ?_)
    refine aw_aload_n 0 (kk := ?_)
    refine aw_iconst 0 (v := 0) (kk := ?_)
    refine aw_iload 4 (kk := ?_)
    refine aw_iconst 1 (v := 1) (kk := ?_)
    refine aw_iadd (kk := ?_)
    refine ac_PI (st := [.int x3]) [.ref x0, .int 0, .int (x4 + 1)] (ag_V 46 10 rc_Md_start wd_1447 cal_Md_start wd_1449 ws_54) cal_Md_start ⟨by decide, by decide⟩ (Nat.le_of_ble_eq_true rfl) (m_Md_start g F σ x0 0 (x4 + 1)) (fun v23 => ?_)
    refine aw_aload_n 0 (kk := ?_)
    refine aw_iconst 0 (v := 0) (kk := ?_)
    refine aw_iload 4 (kk := ?_)
    refine ac_PI (st := [.int v23, .int x3]) [.ref x0, .int 0, .int x4] (ag_V 46 10 rc_Md_start wd_1447 cal_Md_start wd_1449 ws_54) cal_Md_start ⟨by decide, by decide⟩ (Nat.le_of_ble_eq_true rfl) (m_Md_start g F σ x0 0 x4) (fun v24 => ?_)
    refine aw_isub (kk := ?_)
    refine aw_iadd (kk := ?_)
    refine aw_istore_n 3 (kk := ?_)
    refine aw_iinc 4 1 (v := 1) (kk := ?_)
    refine aw_goto (-90) 62 (kk := ?_)
    exact am_W.drop [true, false, false, true, true, false, false] (h62 (x3 + (v23 - v24)) (x4 + 1) σ)
def f_Md_score_l62 (F : Nat) (x0 : Nat) (k155 : Int32 → am_S → Option (Int32 × am_S)) : Nat → Int32 → Int32 → am_S → Option (Int32 × am_S)
  | 0, _, _, _ => none
  | n + 1, x3, x4, σ =>
    (am_gA σ 10 11 x0).bind fun v14 =>
    (am_lI σ .int v14 0).bind fun v15 =>
    if v15 ≤ x4 then
      k155 x3 σ
    else
      f_Md_score_l79 F x0 x4 (fun y5 τ => f_Md_score_j112 F x0 x3 x4 y5 (fun y3 y4 τ => f_Md_score_l62 F x0 k155 n y3 y4 τ) τ) F 0 0 σ
theorem b_Md_score_l62 {g : am_G} {σ0 : am_S} (F : Nat) (x0 : Nat) (k155 : Int32 → am_S → Option (Int32 × am_S)) (h155 : ∀ (y3 : Int32)  (τ : am_S), am_W g mx_Md_score σ0 155 [some (.ref x0), none, none, some (.int y3), none, none, none] [] τ (k155 y3 τ) am_kI) : ∀ (n : Nat) (x3 : Int32) (x4 : Int32) (σ : am_S), am_W g mx_Md_score σ0 62 [some (.ref x0), none, none, some (.int x3), some (.int x4), none, none] [] σ (f_Md_score_l62 F x0 k155 n x3 x4 σ) am_kI := by
  intro n
  induction n with
  | zero =>
    intro x3 x4 σ
    rw [f_Md_score_l62]
    exact am_W.none
  | succ n ih =>
    intro x3 x4 σ
    rw [f_Md_score_l62]
    refine aw_iload 4 (kk := ?_)
    refine aw_aload_n 0 (kk := ?_)
    refine aw_gA 10 11 39 (hw := wd_1166) (kk := fun v14 => ?_)
    refine aw_iconst 0 (v := 0) (kk := ?_)
    refine aw_lI (kk := fun v15 => ?_)
    refine aw_icmp_ge 85 155 (kt := fun _ => ?_) (kf := fun _ => ?_)
    · exact am_W.drop [true, false, false, true, false, false, false] (h155 x3 σ)
    · refine aw_iconst 0 (v := 0) (kk := ?_)
      refine aw_istore 5 (kk := ?_)
      refine aw_iconst 0 (v := 0) (kk := ?_)
      refine aw_istore 6 (kk := ?_)
      exact am_W.drop [true, false, false, true, true, true, true] (b_Md_score_l79 F x0 x3 x4 (fun y5 τ => f_Md_score_j112 F x0 x3 x4 y5 (fun y3 y4 τ => f_Md_score_l62 F x0 k155 n y3 y4 τ) τ) (fun y5 τ => am_W.drop [true, false, false, true, true, true, false] (b_Md_score_j112 F x0 x3 x4 y5 (fun y3 y4 τ => f_Md_score_l62 F x0 k155 n y3 y4 τ) (fun y3 y4 τ => am_W.drop [true, false, false, true, true, false, false] (ih y3 y4 τ)) τ)) F 0 0 σ)
def f_Md_score_j155 (F : Nat) (x0 : Nat) (x3 : Int32)  (σ : am_S) : Option (Int32 × am_S) :=
  (am_gA σ 10 8 x0).bind fun v25 =>
  (am_lA σ 12 v25 0).bind fun v26 =>
  (am_gI σ 12 1 v26).bind fun v27 =>
  (am_gA σ 10 8 x0).bind fun v28 =>
  (am_lA σ 12 v28 1).bind fun v29 =>
  (am_gI σ 12 1 v29).bind fun v30 =>
  if v27 ≤ v30 then
    (am_gA σ 10 8 x0).bind fun v31 =>
    (am_lA σ 12 v31 1).bind fun v32 =>
    (am_gI σ 12 1 v32).bind fun v33 =>
    if v33 = 0 then none else
    some (((x3 * 1000) / v33), σ)
  else
    (am_gA σ 10 8 x0).bind fun v34 =>
    (am_lA σ 12 v34 0).bind fun v35 =>
    (am_gI σ 12 1 v35).bind fun v36 =>
    if v36 = 0 then none else
    some (((x3 * 1000) / v36), σ)
theorem b_Md_score_j155 {g : am_G} {σ0 : am_S} (F : Nat) (x0 : Nat) (x3 : Int32)   (σ : am_S) : am_W g mx_Md_score σ0 155 [some (.ref x0), none, none, some (.int x3), none, none, none] [] σ (f_Md_score_j155 F x0 x3 σ) am_kI := by
  unfold f_Md_score_j155
  refine aw_iload_n 3 (kk := ?_)
  refine aw_sipush 1000 (v := 1000) (kk := ?_)
  refine aw_imul (kk := ?_)
  refine aw_aload_n 0 (kk := ?_)
  refine aw_gA 10 8 32 (hw := wd_1163) (kk := fun v25 => ?_)
  refine aw_iconst 0 (v := 0) (kk := ?_)
  refine aw_lA 12 (kk := fun v26 => ?_)
  refine aw_gI 12 1 7 (hw := wd_1116) (kk := fun v27 => ?_)
  refine aw_aload_n 0 (kk := ?_)
  refine aw_gA 10 8 32 (hw := wd_1163) (kk := fun v28 => ?_)
  refine aw_iconst 1 (v := 1) (kk := ?_)
  refine aw_lA 12 (kk := fun v29 => ?_)
  refine aw_gI 12 1 7 (hw := wd_1116) (kk := fun v30 => ?_)
  refine aw_icmp_le 15 193 (kt := fun _ => ?_) (kf := fun _ => ?_)
  · refine aw_aload_n 0 (kk := ?_)
    refine aw_gA 10 8 32 (hw := wd_1163) (kk := fun v31 => ?_)
    refine aw_iconst 1 (v := 1) (kk := ?_)
    refine aw_lA 12 (kk := fun v32 => ?_)
    refine aw_gI 12 1 7 (hw := wd_1116) (kk := fun v33 => ?_)
    refine aw_idivZ (kk := fun _ => ?_)
    exact aw_iret
  · refine aw_aload_n 0 (kk := ?_)
    refine aw_gA 10 8 32 (hw := wd_1163) (kk := fun v34 => ?_)
    refine aw_iconst 0 (v := 0) (kk := ?_)
    refine aw_lA 12 (kk := fun v35 => ?_)
    refine aw_gI 12 1 7 (hw := wd_1116) (kk := fun v36 => ?_)
    refine aw_goto 12 202 (kk := ?_)
    refine aw_idivZ (kk := fun _ => ?_)
    exact aw_iret
def f_Md_score (F : Nat) (σ : am_S) (x0 : Nat) (x1 : Int32) (x2 : Int32) : Option (Int32 × am_S) :=
  am_ck σ 10 x0 (
  (am_gA σ 10 8 x0).bind fun v1 =>
  (am_lA σ 12 v1 0).bind fun v2 =>
  (f_Md_blobText F σ x0 x1 v2).bind fun σ3 =>
  (am_gA σ3 10 8 x0).bind fun v4 =>
  (am_lA σ3 12 v4 1).bind fun v5 =>
  (f_Md_blobText F σ3 x0 x2 v5).bind fun σ6 =>
  (f_Md_cut F σ6 x0 0).bind fun σ7 =>
  (f_Md_cut F σ7 x0 1).bind fun σ8 =>
  (am_gA σ8 10 11 x0).bind fun v9 =>
  (am_lI σ8 .int v9 0).bind fun v10 =>
  if v10 ≤ 0 then
    some (0, σ8)
  else
    (am_gA σ8 10 11 x0).bind fun v11 =>
    (am_lI σ8 .int v11 1).bind fun v12 =>
    if 0 < v12 then
      (f_Md_sort F σ8 x0 2).bind fun σ13 =>
      f_Md_score_l62 F x0 (fun y3 τ => f_Md_score_j155 F x0 y3 τ) F 0 0 σ13
    else
      some (0, σ8))
theorem rc_Md_score {F : Nat} {σ : am_S} {x0 : Nat} {x1 : Int32} {x2 : Int32} (h : (f_Md_score F σ x0 x1 x2).isSome = true) : ∃ fs, σ.2.2 x0 = some (.inr (10, fs)) := am_ck_some h
theorem m_Md_score (g : am_G) (F : Nat) (σ : am_S) (x0 : Nat) (x1 : Int32) (x2 : Int32) : am_Met g mx_Md_score [.ref x0, .int x1, .int x2] σ ((f_Md_score F σ x0 x1 x2).bind am_kI) := by
  refine am_Met.of (lv := [some (.ref x0), some (.int x1), some (.int x2), none, none, none, none]) (am_cc rfl (am_cc rfl (am_cc rfl am_c0))) (Nat.le_of_ble_eq_true rfl) rfl (by decide) ?_
  unfold f_Md_score
  refine am_W.ck ?_
  refine aw_aload_n 0 (kk := ?_)
  refine aw_iload_n 1 (kk := ?_)
  refine aw_aload_n 0 (kk := ?_)
  refine aw_gA 10 8 32 (hw := wd_1163) (kk := fun v1 => ?_)
  refine aw_iconst 0 (v := 0) (kk := ?_)
  refine aw_lA 12 (kk := fun v2 => ?_)
  refine ac_V (st := []) [.ref x0, .int x1, .ref v2] (ag_V 116 10 rc_Md_blobText wd_1430 cal_Md_blobText wd_1432 ws_50) cal_Md_blobText ⟨by decide, by decide⟩ (Nat.le_of_ble_eq_true rfl) (m_Md_blobText g F σ x0 x1 v2) (fun σ3 => ?_)
  refine aw_aload_n 0 (kk := ?_)
  refine aw_iload_n 2 (kk := ?_)
  refine aw_aload_n 0 (kk := ?_)
  refine aw_gA 10 8 32 (hw := wd_1163) (kk := fun v4 => ?_)
  refine aw_iconst 1 (v := 1) (kk := ?_)
  refine aw_lA 12 (kk := fun v5 => ?_)
  refine ac_V (st := []) [.ref x0, .int x2, .ref v5] (ag_V 116 10 rc_Md_blobText wd_1430 cal_Md_blobText wd_1432 ws_50) cal_Md_blobText ⟨by decide, by decide⟩ (Nat.le_of_ble_eq_true rfl) (m_Md_blobText g F σ3 x0 x2 v5) (fun σ6 => ?_)
  refine aw_aload_n 0 (kk := ?_)
  refine aw_iconst 0 (v := 0) (kk := ?_)
  refine ac_V (st := []) [.ref x0, .int 0] (ag_V 97 10 rc_Md_cut wd_1435 cal_Md_cut wd_1437 ws_51) cal_Md_cut ⟨by decide, by decide⟩ (Nat.le_of_ble_eq_true rfl) (m_Md_cut g F σ6 x0 0) (fun σ7 => ?_)
  refine aw_aload_n 0 (kk := ?_)
  refine aw_iconst 1 (v := 1) (kk := ?_)
  refine ac_V (st := []) [.ref x0, .int 1] (ag_V 97 10 rc_Md_cut wd_1435 cal_Md_cut wd_1437 ws_51) cal_Md_cut ⟨by decide, by decide⟩ (Nat.le_of_ble_eq_true rfl) (m_Md_cut g F σ7 x0 1) (fun σ8 => ?_)
  refine aw_aload_n 0 (kk := ?_)
  refine aw_gA 10 11 39 (hw := wd_1166) (kk := fun v9 => ?_)
  refine aw_iconst 0 (v := 0) (kk := ?_)
  refine aw_lI (kk := fun v10 => ?_)
  refine aw_if_le 12 50 (kt := fun _ => ?_) (kf := fun _ => ?_)
  · refine aw_iconst 0 (v := 0) (kk := ?_)
    exact aw_iret
  · refine aw_aload_n 0 (kk := ?_)
    refine aw_gA 10 11 39 (hw := wd_1166) (kk := fun v11 => ?_)
    refine aw_iconst 1 (v := 1) (kk := ?_)
    refine aw_lI (kk := fun v12 => ?_)
    refine aw_if_gt 5 52 (kt := fun _ => ?_) (kf := fun _ => ?_)
    · refine aw_aload_n 0 (kk := ?_)
      refine aw_iconst 2 (v := 2) (kk := ?_)
      refine ac_V (st := []) [.ref x0, .int 2] (ag_V 101 10 rc_Md_sort wd_1439 cal_Md_sort wd_1441 ws_52) cal_Md_sort ⟨by decide, by decide⟩ (Nat.le_of_ble_eq_true rfl) (m_Md_sort g F σ8 x0 2) (fun σ13 => ?_)
      refine aw_iconst 0 (v := 0) (kk := ?_)
      refine aw_istore_n 3 (kk := ?_)
      refine aw_iconst 0 (v := 0) (kk := ?_)
      refine aw_istore 4 (kk := ?_)
      exact am_W.drop [true, false, false, true, true, false, false] (b_Md_score_l62 F x0 (fun y3 τ => f_Md_score_j155 F x0 y3 τ) (fun y3 τ => am_W.drop [true, false, false, true, false, false, false] (b_Md_score_j155 F x0 y3 τ)) F 0 0 σ13)
    · refine aw_iconst 0 (v := 0) (kk := ?_)
      exact aw_iret
def f_Md_renames_l13 (F : Nat) (x0 : Nat) (x1 : Nat) (x2 : Nat) (x3 : Nat) (k67 : am_S → Option (am_S)) : Nat → Int32 → am_S → Option (am_S)
  | 0, _, _ => none
  | n + 1, x5, σ =>
    (am_gI σ 11 4 x1).bind fun v3 =>
    if v3 ≤ x5 then
      k67 σ
    else
      (am_sI σ x3 x5 (-1)).bind fun σ4 =>
      (f_Ps_findb F σ4 x2 x1 x5).bind fun v5 =>
      if v5 < 0 then
        (am_gA σ4 10 15 x0).bind fun v6 =>
        (am_gI σ4 10 18 x0).bind fun v7 =>
        (am_sI σ4 v6 v7 x5).bind fun σ8 =>
        (am_gI σ8 10 18 x0).bind fun v9 =>
        (am_pI σ8 10 18 x0 (v9 + 1)).bind fun σ10 =>
        f_Md_renames_l13 F x0 x1 x2 x3 k67 n (x5 + 1) σ10
      else
        f_Md_renames_l13 F x0 x1 x2 x3 k67 n (x5 + 1) σ4
theorem b_Md_renames_l13 {g : am_G} {σ0 : am_S} (F : Nat) (x0 : Nat) (x1 : Nat) (x2 : Nat) (x3 : Nat) (x4 : Nat) (k67 : am_S → Option (am_S)) (h67 : ∀ (τ : am_S), am_W g mx_Md_renames σ0 67 [some (.ref x0), some (.ref x1), some (.ref x2), some (.ref x3), some (.ref x4), none, none, none, none, none, none, none, none, none] [] τ (k67 τ) am_kV) : ∀ (n : Nat) (x5 : Int32) (σ : am_S), am_W g mx_Md_renames σ0 13 [some (.ref x0), some (.ref x1), some (.ref x2), some (.ref x3), some (.ref x4), some (.int x5), none, none, none, none, none, none, none, none] [] σ (f_Md_renames_l13 F x0 x1 x2 x3 k67 n x5 σ) am_kV := by
  intro n
  induction n with
  | zero =>
    intro x5 σ
    rw [f_Md_renames_l13]
    exact am_W.none
  | succ n ih =>
    intro x5 σ
    rw [f_Md_renames_l13]
    refine aw_iload 5 (kk := ?_)
    refine aw_aload_n 1 (kk := ?_)
    refine aw_gI 11 4 129 (hw := wd_1132) (kk := fun v3 => ?_)
    refine aw_icmp_ge 48 67 (kt := fun _ => ?_) (kf := fun _ => ?_)
    · exact am_W.drop [true, true, true, true, true, false, false, false, false, false, false, false, false, false] (h67 σ)
    · refine aw_aload_n 3 (kk := ?_)
      refine aw_iload 5 (kk := ?_)
      refine aw_iconst (-1) (v := (-1)) (kk := ?_)
      refine aw_sI (kk := fun σ4 => ?_)
      refine aw_aload_n 2 (kk := ?_)
      refine aw_aload_n 1 (kk := ?_)
      refine aw_iload 5 (kk := ?_)
      refine ac_PI (st := []) [.ref x2, .ref x1, .int x5] (ag_V 132 11 rc_Ps_findb wd_1418 cal_Ps_findb wd_1419 wd_1420) cal_Ps_findb ⟨by decide, by decide⟩ (Nat.le_of_ble_eq_true rfl) (m_Ps_findb g F σ4 x2 x1 x5) (fun v5 => ?_)
      refine aw_if_lt 6 40 (kt := fun _ => ?_) (kf := fun _ => ?_)
      · refine aw_aload_n 0 (kk := ?_)
        refine aw_gA 10 15 136 (hw := wd_1170) (kk := fun v6 => ?_)
        refine aw_aload_n 0 (kk := ?_)
        refine aw_gI 10 18 123 (hw := wd_1173) (kk := fun v7 => ?_)
        refine aw_iload 5 (kk := ?_)
        refine aw_sI (kk := fun σ8 => ?_)
        refine aw_aload_n 0 (kk := ?_)
        refine aw_dup (kk := ?_)
        refine aw_gI 10 18 123 (hw := wd_1173) (kk := fun v9 => ?_)
        refine aw_iconst 1 (v := 1) (kk := ?_)
        refine aw_iadd (kk := ?_)
        refine aw_pI 10 18 123 (hw := wd_1173) (kk := fun σ10 => ?_)
        refine aw_iinc 5 1 (v := 1) (kk := ?_)
        refine aw_goto (-51) 13 (kk := ?_)
        exact am_W.drop [true, true, true, true, true, true, false, false, false, false, false, false, false, false] (ih (x5 + 1) σ10)
      · refine aw_goto 24 61 (kk := ?_)
        refine aw_iinc 5 1 (v := 1) (kk := ?_)
        refine aw_goto (-51) 13 (kk := ?_)
        exact am_W.drop [true, true, true, true, true, true, false, false, false, false, false, false, false, false] (ih (x5 + 1) σ4)
def f_Md_renames_l70 (F : Nat) (x0 : Nat) (x1 : Nat) (x2 : Nat) (k119 : am_S → Option (am_S)) : Nat → Int32 → am_S → Option (am_S)
  | 0, _, _ => none
  | n + 1, x5, σ =>
    (am_gI σ 11 4 x2).bind fun v11 =>
    if v11 ≤ x5 then
      k119 σ
    else
      (f_Ps_findb F σ x1 x2 x5).bind fun v12 =>
      if v12 < 0 then
        (am_gA σ 10 16 x0).bind fun v13 =>
        (am_gI σ 10 19 x0).bind fun v14 =>
        (am_sI σ v13 v14 x5).bind fun σ15 =>
        (am_gI σ15 10 19 x0).bind fun v16 =>
        (am_pI σ15 10 19 x0 (v16 + 1)).bind fun σ17 =>
        f_Md_renames_l70 F x0 x1 x2 k119 n (x5 + 1) σ17
      else
        f_Md_renames_l70 F x0 x1 x2 k119 n (x5 + 1) σ
theorem b_Md_renames_l70 {g : am_G} {σ0 : am_S} (F : Nat) (x0 : Nat) (x1 : Nat) (x2 : Nat) (x3 : Nat) (x4 : Nat) (k119 : am_S → Option (am_S)) (h119 : ∀ (τ : am_S), am_W g mx_Md_renames σ0 119 [some (.ref x0), some (.ref x1), some (.ref x2), some (.ref x3), some (.ref x4), none, none, none, none, none, none, none, none, none] [] τ (k119 τ) am_kV) : ∀ (n : Nat) (x5 : Int32) (σ : am_S), am_W g mx_Md_renames σ0 70 [some (.ref x0), some (.ref x1), some (.ref x2), some (.ref x3), some (.ref x4), some (.int x5), none, none, none, none, none, none, none, none] [] σ (f_Md_renames_l70 F x0 x1 x2 k119 n x5 σ) am_kV := by
  intro n
  induction n with
  | zero =>
    intro x5 σ
    rw [f_Md_renames_l70]
    exact am_W.none
  | succ n ih =>
    intro x5 σ
    rw [f_Md_renames_l70]
    refine aw_iload 5 (kk := ?_)
    refine aw_aload_n 2 (kk := ?_)
    refine aw_gI 11 4 129 (hw := wd_1132) (kk := fun v11 => ?_)
    refine aw_icmp_ge 43 119 (kt := fun _ => ?_) (kf := fun _ => ?_)
    · exact am_W.drop [true, true, true, true, true, false, false, false, false, false, false, false, false, false] (h119 σ)
    · refine aw_aload_n 1 (kk := ?_)
      refine aw_aload_n 2 (kk := ?_)
      refine aw_iload 5 (kk := ?_)
      refine ac_PI (st := []) [.ref x1, .ref x2, .int x5] (ag_V 132 11 rc_Ps_findb wd_1418 cal_Ps_findb wd_1419 wd_1420) cal_Ps_findb ⟨by decide, by decide⟩ (Nat.le_of_ble_eq_true rfl) (m_Ps_findb g F σ x1 x2 x5) (fun v12 => ?_)
      refine aw_if_lt 6 92 (kt := fun _ => ?_) (kf := fun _ => ?_)
      · refine aw_aload_n 0 (kk := ?_)
        refine aw_gA 10 16 139 (hw := wd_1171) (kk := fun v13 => ?_)
        refine aw_aload_n 0 (kk := ?_)
        refine aw_gI 10 19 126 (hw := wd_1174) (kk := fun v14 => ?_)
        refine aw_iload 5 (kk := ?_)
        refine aw_sI (kk := fun σ15 => ?_)
        refine aw_aload_n 0 (kk := ?_)
        refine aw_dup (kk := ?_)
        refine aw_gI 10 19 126 (hw := wd_1174) (kk := fun v16 => ?_)
        refine aw_iconst 1 (v := 1) (kk := ?_)
        refine aw_iadd (kk := ?_)
        refine aw_pI 10 19 126 (hw := wd_1174) (kk := fun σ17 => ?_)
        refine aw_iinc 5 1 (v := 1) (kk := ?_)
        refine aw_goto (-46) 70 (kk := ?_)
        exact am_W.drop [true, true, true, true, true, true, false, false, false, false, false, false, false, false] (ih (x5 + 1) σ17)
      · refine aw_goto 24 113 (kk := ?_)
        refine aw_iinc 5 1 (v := 1) (kk := ?_)
        refine aw_goto (-46) 70 (kk := ?_)
        exact am_W.drop [true, true, true, true, true, true, false, false, false, false, false, false, false, false] (ih (x5 + 1) σ)
def f_Md_renames_l164 (F : Nat) (x0 : Nat) (x1 : Nat) (x2 : Nat) (x6 : Int32) (k246 : am_S → Option (am_S)) : Nat → Int32 → am_S → Option (am_S)
  | 0, _, _ => none
  | n + 1, x7, σ =>
    (am_gI σ 10 19 x0).bind fun v21 =>
    if v21 ≤ x7 then
      k246 σ
    else
      (am_gA σ 11 2 x1).bind fun v22 =>
      (am_gA σ 10 15 x0).bind fun v23 =>
      (am_lI σ .int v23 x6).bind fun v24 =>
      (am_lI σ .int v22 (3 * v24)).bind fun v25 =>
      (am_gA σ 11 2 x2).bind fun v26 =>
      (am_gA σ 10 16 x0).bind fun v27 =>
      (am_lI σ .int v27 x7).bind fun v28 =>
      (am_lI σ .int v26 (3 * v28)).bind fun v29 =>
      (am_gA σ 10 17 x0).bind fun v30 =>
      if v25 = v29 then
        (am_sS σ v30 ((x6 * 50) + x7) (am_i2s 1000)).bind fun σ34 =>
        f_Md_renames_l164 F x0 x1 x2 x6 k246 n (x7 + 1) σ34
      else
        am_b2 (f_Md_score F σ x0 v25 v29) fun v31 σ32 =>
        (am_sS σ32 v30 ((x6 * 50) + x7) (am_i2s v31)).bind fun σ33 =>
        f_Md_renames_l164 F x0 x1 x2 x6 k246 n (x7 + 1) σ33
theorem b_Md_renames_l164 {g : am_G} {σ0 : am_S} (F : Nat) (x0 : Nat) (x1 : Nat) (x2 : Nat) (x3 : Nat) (x4 : Nat) (x5 : Int32) (x6 : Int32) (k246 : am_S → Option (am_S)) (h246 : ∀ (τ : am_S), am_W g mx_Md_renames σ0 246 [some (.ref x0), some (.ref x1), some (.ref x2), some (.ref x3), some (.ref x4), some (.int x5), some (.int x6), none, none, none, none, none, none, none] [] τ (k246 τ) am_kV) : ∀ (n : Nat) (x7 : Int32) (σ : am_S), am_W g mx_Md_renames σ0 164 [some (.ref x0), some (.ref x1), some (.ref x2), some (.ref x3), some (.ref x4), some (.int x5), some (.int x6), some (.int x7), none, none, none, none, none, none] [] σ (f_Md_renames_l164 F x0 x1 x2 x6 k246 n x7 σ) am_kV := by
  intro n
  induction n with
  | zero =>
    intro x7 σ
    rw [f_Md_renames_l164]
    exact am_W.none
  | succ n ih =>
    intro x7 σ
    rw [f_Md_renames_l164]
    refine aw_iload 7 (kk := ?_)
    refine aw_aload_n 0 (kk := ?_)
    refine aw_gI 10 19 126 (hw := wd_1174) (kk := fun v21 => ?_)
    refine aw_icmp_ge 76 246 (kt := fun _ => ?_) (kf := fun _ => ?_)
    · exact am_W.drop [true, true, true, true, true, true, true, false, false, false, false, false, false, false] (h246 σ)
    · refine aw_aload_n 1 (kk := ?_)
      refine aw_gA 11 2 142 (hw := wd_1128) (kk := fun v22 => ?_)
      refine aw_iconst 3 (v := 3) (kk := ?_)
      refine aw_aload_n 0 (kk := ?_)
      refine aw_gA 10 15 136 (hw := wd_1170) (kk := fun v23 => ?_)
      refine aw_iload 6 (kk := ?_)
      refine aw_lI (kk := fun v24 => ?_)
      refine aw_imul (kk := ?_)
      refine aw_lI (kk := fun v25 => ?_)
      refine aw_istore 8 (kk := ?_)
      refine aw_aload_n 2 (kk := ?_)
      refine aw_gA 11 2 142 (hw := wd_1128) (kk := fun v26 => ?_)
      refine aw_iconst 3 (v := 3) (kk := ?_)
      refine aw_aload_n 0 (kk := ?_)
      refine aw_gA 10 16 139 (hw := wd_1171) (kk := fun v27 => ?_)
      refine aw_iload 7 (kk := ?_)
      refine aw_lI (kk := fun v28 => ?_)
      refine aw_imul (kk := ?_)
      refine aw_lI (kk := fun v29 => ?_)
      refine aw_istore 9 (kk := ?_)
      refine aw_aload_n 0 (kk := ?_)
      refine aw_gA 10 17 144 (hw := wd_1172) (kk := fun v30 => ?_)
      refine aw_iload 6 (kk := ?_)
      refine aw_bipush 50 (v := 50) (kk := ?_)
      refine aw_imul (kk := ?_)
      refine aw_iload 7 (kk := ?_)
      refine aw_iadd (kk := ?_)
      refine aw_iload 8 (kk := ?_)
      refine aw_iload 9 (kk := ?_)
      refine aw_icmp_ne 9 230 (kt := fun _ => ?_) (kf := fun _ => ?_)
      · refine aw_aload_n 0 (kk := ?_)
        refine aw_iload 8 (kk := ?_)
        refine aw_iload 9 (kk := ?_)
        refine ac_I (st := [.int ((x6 * 50) + x7), .ref v30]) [.ref x0, .int v25, .int v29] (ag_V 148 10 rc_Md_score wd_1426 cal_Md_score wd_1428 ws_49) cal_Md_score ⟨by decide, by decide⟩ (Nat.le_of_ble_eq_true rfl) (m_Md_score g F σ x0 v25 v29) (fun v31 σ32 => ?_)
        refine aw_i2s (kk := ?_)
        refine aw_sS (kk := fun σ33 => ?_)
        refine aw_iinc 7 1 (v := 1) (kk := ?_)
        refine aw_goto (-79) 164 (kk := ?_)
        exact am_W.drop [true, true, true, true, true, true, true, true, false, false, false, false, false, false] (ih (x7 + 1) σ33)
      · refine aw_sipush 1000 (v := 1000) (kk := ?_)
        refine aw_goto 11 238 (kk := ?_)
        refine aw_i2s (kk := ?_)
        refine aw_sS (kk := fun σ34 => ?_)
        refine aw_iinc 7 1 (v := 1) (kk := ?_)
        refine aw_goto (-79) 164 (kk := ?_)
        exact am_W.drop [true, true, true, true, true, true, true, true, false, false, false, false, false, false] (ih (x7 + 1) σ34)
def f_Md_renames_j246 (F : Nat) (x6 : Int32) (k147 : Int32 → am_S → Option (am_S)) (σ : am_S) : Option (am_S) :=
  k147 (x6 + 1) σ
theorem b_Md_renames_j246 {g : am_G} {σ0 : am_S} (F : Nat) (x0 : Nat) (x1 : Nat) (x2 : Nat) (x3 : Nat) (x4 : Nat) (x5 : Int32) (x6 : Int32) (k147 : Int32 → am_S → Option (am_S)) (h147 : ∀ (y6 : Int32)  (τ : am_S), am_W g mx_Md_renames σ0 147 [some (.ref x0), some (.ref x1), some (.ref x2), some (.ref x3), some (.ref x4), some (.int x5), some (.int y6), none, none, none, none, none, none, none] [] τ (k147 y6 τ) am_kV) (σ : am_S) : am_W g mx_Md_renames σ0 246 [some (.ref x0), some (.ref x1), some (.ref x2), some (.ref x3), some (.ref x4), some (.int x5), some (.int x6), none, none, none, none, none, none, none] [] σ (f_Md_renames_j246 F x6 k147 σ) am_kV := by
  unfold f_Md_renames_j246
  refine aw_iinc 6 1 (v := 1) (kk := ?_)
  refine aw_goto (-102) 147 (kk := ?_)
  exact am_W.drop [true, true, true, true, true, true, true, false, false, false, false, false, false, false] (h147 (x6 + 1) σ)
def f_Md_renames_l147 (F : Nat) (x0 : Nat) (x1 : Nat) (x2 : Nat) (x5 : Int32) (k252 : am_S → Option (am_S)) : Nat → Int32 → am_S → Option (am_S)
  | 0, _, _ => none
  | n + 1, x6, σ =>
    if x5 = 0 then
      k252 σ
    else
      (am_gI σ 10 18 x0).bind fun v20 =>
      if v20 ≤ x6 then
        k252 σ
      else
        f_Md_renames_l164 F x0 x1 x2 x6 (fun τ => f_Md_renames_j246 F x6 (fun y6 τ => f_Md_renames_l147 F x0 x1 x2 x5 k252 n y6 τ) τ) F 0 σ
theorem b_Md_renames_l147 {g : am_G} {σ0 : am_S} (F : Nat) (x0 : Nat) (x1 : Nat) (x2 : Nat) (x3 : Nat) (x4 : Nat) (x5 : Int32) (k252 : am_S → Option (am_S)) (h252 : ∀ (τ : am_S), am_W g mx_Md_renames σ0 252 [some (.ref x0), some (.ref x1), some (.ref x2), some (.ref x3), some (.ref x4), some (.int x5), none, none, none, none, none, none, none, none] [] τ (k252 τ) am_kV) : ∀ (n : Nat) (x6 : Int32) (σ : am_S), am_W g mx_Md_renames σ0 147 [some (.ref x0), some (.ref x1), some (.ref x2), some (.ref x3), some (.ref x4), some (.int x5), some (.int x6), none, none, none, none, none, none, none] [] σ (f_Md_renames_l147 F x0 x1 x2 x5 k252 n x6 σ) am_kV := by
  intro n
  induction n with
  | zero =>
    intro x6 σ
    rw [f_Md_renames_l147]
    exact am_W.none
  | succ n ih =>
    intro x6 σ
    rw [f_Md_renames_l147]
    refine aw_iload 5 (kk := ?_)
    refine aw_if_eq 103 252 (kt := fun _ => ?_) (kf := fun _ => ?_)
    · exact am_W.drop [true, true, true, true, true, true, false, false, false, false, false, false, false, false] (h252 σ)
    · refine aw_iload 6 (kk := ?_)
      refine aw_aload_n 0 (kk := ?_)
      refine aw_gI 10 18 123 (hw := wd_1173) (kk := fun v20 => ?_)
      refine aw_icmp_ge 94 252 (kt := fun _ => ?_) (kf := fun _ => ?_)
      · exact am_W.drop [true, true, true, true, true, true, false, false, false, false, false, false, false, false] (h252 σ)
      · refine aw_iconst 0 (v := 0) (kk := ?_)
        refine aw_istore 7 (kk := ?_)
        exact am_W.drop [true, true, true, true, true, true, true, true, false, false, false, false, false, false] (b_Md_renames_l164 F x0 x1 x2 x3 x4 x5 x6 (fun τ => f_Md_renames_j246 F x6 (fun y6 τ => f_Md_renames_l147 F x0 x1 x2 x5 k252 n y6 τ) τ) (fun τ => am_W.drop [true, true, true, true, true, true, true, false, false, false, false, false, false, false] (b_Md_renames_j246 F x0 x1 x2 x3 x4 x5 x6 (fun y6 τ => f_Md_renames_l147 F x0 x1 x2 x5 k252 n y6 τ) (fun y6 τ => am_W.drop [true, true, true, true, true, true, true, false, false, false, false, false, false, false] (ih y6 τ)) τ)) F 0 σ)
def f_Md_renames_j418 (F : Nat) (x6 : Int32) (x7 : Int32) (x8 : Int32) (x9 : Int32) (x10 : Int32) (t57 : Int32) (k278 : Int32 → Int32 → Int32 → Int32 → am_S → Option (am_S)) (σ : am_S) : Option (am_S) :=
  if x6 < t57 then
    k278 t57 x9 x10 (x10 + 1) σ
  else
    k278 x6 x7 x8 (x10 + 1) σ
theorem b_Md_renames_j418 {g : am_G} {σ0 : am_S} (F : Nat) (x0 : Nat) (x1 : Nat) (x2 : Nat) (x3 : Nat) (x4 : Nat) (x5 : Int32) (x6 : Int32) (x7 : Int32) (x8 : Int32) (x9 : Int32) (x10 : Int32) (t57 : Int32) (k278 : Int32 → Int32 → Int32 → Int32 → am_S → Option (am_S)) (h278 : ∀ (y6 : Int32) (y7 : Int32) (y8 : Int32) (y10 : Int32)  (τ : am_S), am_W g mx_Md_renames σ0 278 [some (.ref x0), some (.ref x1), some (.ref x2), some (.ref x3), some (.ref x4), some (.int x5), some (.int y6), some (.int y7), some (.int y8), some (.int x9), some (.int y10), none, none, none] [] τ (k278 y6 y7 y8 y10 τ) am_kV) (σ : am_S) : am_W g mx_Md_renames σ0 418 [some (.ref x0), some (.ref x1), some (.ref x2), some (.ref x3), some (.ref x4), some (.int x5), some (.int x6), some (.int x7), some (.int x8), some (.int x9), some (.int x10), none, none, none] [.int t57] σ (f_Md_renames_j418 F x6 x7 x8 x9 x10 t57 k278 σ) am_kV := by
  unfold f_Md_renames_j418
  refine aw_istore 13 (kk := ?_)
  refine aw_iload 13 (kk := ?_)
  refine aw_iload 6 (kk := ?_)
  refine aw_icmp_gt 6 430 (kt := fun _ => ?_) (kf := fun _ => ?_)
  · refine aw_iload 13 (kk := ?_)
    refine aw_istore 6 (kk := ?_)
    refine aw_iload 9 (kk := ?_)
    refine aw_istore 7 (kk := ?_)
    refine aw_iload 10 (kk := ?_)
    refine aw_istore 8 (kk := ?_)
    refine aw_iinc 10 1 (v := 1) (kk := ?_)
    refine aw_goto (-167) 278 (kk := ?_)
    exact am_W.drop [true, true, true, true, true, true, true, true, true, true, true, false, false, false] (h278 t57 x9 x10 (x10 + 1) σ)
  · refine aw_goto 15 442 (kk := ?_)
    refine aw_iinc 10 1 (v := 1) (kk := ?_)
    refine aw_goto (-167) 278 (kk := ?_)
    exact am_W.drop [true, true, true, true, true, true, true, true, true, true, true, false, false, false] (h278 x6 x7 x8 (x10 + 1) σ)
def f_Md_renames_l278 (F : Nat) (x0 : Nat) (x1 : Nat) (x2 : Nat) (x5 : Int32) (x9 : Int32) (k448 : Int32 → Int32 → Int32 → am_S → Option (am_S)) : Nat → Int32 → Int32 → Int32 → Int32 → am_S → Option (am_S)
  | 0, _, _, _, _, _ => none
  | n + 1, x6, x7, x8, x10, σ =>
    (am_gI σ 10 19 x0).bind fun v36 =>
    if v36 ≤ x10 then
      k448 x6 x7 x8 σ
    else
      (am_gA σ 10 15 x0).bind fun v37 =>
      (am_lI σ .int v37 x9).bind fun v38 =>
      if v38 < 0 then
        f_Md_renames_l278 F x0 x1 x2 x5 x9 k448 n x6 x7 x8 (x10 + 1) σ
      else
        (am_gA σ 10 16 x0).bind fun v39 =>
        (am_lI σ .int v39 x10).bind fun v40 =>
        if 0 ≤ v40 then
          (am_gA σ 11 2 x1).bind fun v41 =>
          (am_gA σ 10 15 x0).bind fun v42 =>
          (am_lI σ .int v42 x9).bind fun v43 =>
          (am_lI σ .int v41 (3 * v43)).bind fun v44 =>
          (am_gA σ 11 2 x2).bind fun v45 =>
          (am_gA σ 10 16 x0).bind fun v46 =>
          (am_lI σ .int v46 x10).bind fun v47 =>
          (am_lI σ .int v45 (3 * v47)).bind fun v48 =>
          (am_gA σ 10 3 x0).bind fun v49 =>
          (am_lI σ .int v49 v44).bind fun v50 =>
          (am_gA σ 10 3 x0).bind fun v51 =>
          (am_lI σ .int v51 (v44 + 1)).bind fun v52 =>
          if v50 = v52 then
            f_Md_renames_l278 F x0 x1 x2 x5 x9 k448 n x6 x7 x8 (x10 + 1) σ
          else
            (am_gA σ 10 3 x0).bind fun v53 =>
            (am_lI σ .int v53 v48).bind fun v54 =>
            (am_gA σ 10 3 x0).bind fun v55 =>
            (am_lI σ .int v55 (v48 + 1)).bind fun v56 =>
            if v54 = v56 then
              f_Md_renames_l278 F x0 x1 x2 x5 x9 k448 n x6 x7 x8 (x10 + 1) σ
            else
              if x5 = 0 then
                if v44 = v48 then
                  f_Md_renames_j418 F x6 x7 x8 x9 x10 1000 (fun y6 y7 y8 y10 τ => f_Md_renames_l278 F x0 x1 x2 x5 x9 k448 n y6 y7 y8 y10 τ) σ
                else
                  f_Md_renames_j418 F x6 x7 x8 x9 x10 0 (fun y6 y7 y8 y10 τ => f_Md_renames_l278 F x0 x1 x2 x5 x9 k448 n y6 y7 y8 y10 τ) σ
              else
                (am_gA σ 10 17 x0).bind fun v58 =>
                (am_lI σ .short v58 ((x9 * 50) + x10)).bind fun v59 =>
                f_Md_renames_j418 F x6 x7 x8 x9 x10 v59 (fun y6 y7 y8 y10 τ => f_Md_renames_l278 F x0 x1 x2 x5 x9 k448 n y6 y7 y8 y10 τ) σ
        else
          f_Md_renames_l278 F x0 x1 x2 x5 x9 k448 n x6 x7 x8 (x10 + 1) σ
theorem b_Md_renames_l278 {g : am_G} {σ0 : am_S} (F : Nat) (x0 : Nat) (x1 : Nat) (x2 : Nat) (x3 : Nat) (x4 : Nat) (x5 : Int32) (x9 : Int32) (k448 : Int32 → Int32 → Int32 → am_S → Option (am_S)) (h448 : ∀ (y6 : Int32) (y7 : Int32) (y8 : Int32)  (τ : am_S), am_W g mx_Md_renames σ0 448 [some (.ref x0), some (.ref x1), some (.ref x2), some (.ref x3), some (.ref x4), some (.int x5), some (.int y6), some (.int y7), some (.int y8), some (.int x9), none, none, none, none] [] τ (k448 y6 y7 y8 τ) am_kV) : ∀ (n : Nat) (x6 : Int32) (x7 : Int32) (x8 : Int32) (x10 : Int32) (σ : am_S), am_W g mx_Md_renames σ0 278 [some (.ref x0), some (.ref x1), some (.ref x2), some (.ref x3), some (.ref x4), some (.int x5), some (.int x6), some (.int x7), some (.int x8), some (.int x9), some (.int x10), none, none, none] [] σ (f_Md_renames_l278 F x0 x1 x2 x5 x9 k448 n x6 x7 x8 x10 σ) am_kV := by
  intro n
  induction n with
  | zero =>
    intro x6 x7 x8 x10 σ
    rw [f_Md_renames_l278]
    exact am_W.none
  | succ n ih =>
    intro x6 x7 x8 x10 σ
    rw [f_Md_renames_l278]
    refine aw_iload 10 (kk := ?_)
    refine aw_aload_n 0 (kk := ?_)
    refine aw_gI 10 19 126 (hw := wd_1174) (kk := fun v36 => ?_)
    refine aw_icmp_ge 164 448 (kt := fun _ => ?_) (kf := fun _ => ?_)
    · exact am_W.drop [true, true, true, true, true, true, true, true, true, true, false, false, false, false] (h448 x6 x7 x8 σ)
    · refine aw_aload_n 0 (kk := ?_)
      refine aw_gA 10 15 136 (hw := wd_1170) (kk := fun v37 => ?_)
      refine aw_iload 9 (kk := ?_)
      refine aw_lI (kk := fun v38 => ?_)
      refine aw_if_lt 148 442 (kt := fun _ => ?_) (kf := fun _ => ?_)
      · refine aw_iinc 10 1 (v := 1) (kk := ?_)
        refine aw_goto (-167) 278 (kk := ?_)
        exact am_W.drop [true, true, true, true, true, true, true, true, true, true, true, false, false, false] (ih x6 x7 x8 (x10 + 1) σ)
      · refine aw_aload_n 0 (kk := ?_)
        refine aw_gA 10 16 139 (hw := wd_1171) (kk := fun v39 => ?_)
        refine aw_iload 10 (kk := ?_)
        refine aw_lI (kk := fun v40 => ?_)
        refine aw_if_ge 6 310 (kt := fun _ => ?_) (kf := fun _ => ?_)
        · refine aw_aload_n 1 (kk := ?_)
          refine aw_gA 11 2 142 (hw := wd_1128) (kk := fun v41 => ?_)
          refine aw_iconst 3 (v := 3) (kk := ?_)
          refine aw_aload_n 0 (kk := ?_)
          refine aw_gA 10 15 136 (hw := wd_1170) (kk := fun v42 => ?_)
          refine aw_iload 9 (kk := ?_)
          refine aw_lI (kk := fun v43 => ?_)
          refine aw_imul (kk := ?_)
          refine aw_lI (kk := fun v44 => ?_)
          refine aw_istore 11 (kk := ?_)
          refine aw_aload_n 2 (kk := ?_)
          refine aw_gA 11 2 142 (hw := wd_1128) (kk := fun v45 => ?_)
          refine aw_iconst 3 (v := 3) (kk := ?_)
          refine aw_aload_n 0 (kk := ?_)
          refine aw_gA 10 16 139 (hw := wd_1171) (kk := fun v46 => ?_)
          refine aw_iload 10 (kk := ?_)
          refine aw_lI (kk := fun v47 => ?_)
          refine aw_imul (kk := ?_)
          refine aw_lI (kk := fun v48 => ?_)
          refine aw_istore 12 (kk := ?_)
          refine aw_aload_n 0 (kk := ?_)
          refine aw_gA 10 3 24 (hw := wd_1158) (kk := fun v49 => ?_)
          refine aw_iload 11 (kk := ?_)
          refine aw_lI (kk := fun v50 => ?_)
          refine aw_aload_n 0 (kk := ?_)
          refine aw_gA 10 3 24 (hw := wd_1158) (kk := fun v51 => ?_)
          refine aw_iload 11 (kk := ?_)
          refine aw_iconst 1 (v := 1) (kk := ?_)
          refine aw_iadd (kk := ?_)
          refine aw_lI (kk := fun v52 => ?_)
          refine aw_icmp_eq 84 442 (kt := fun _ => ?_) (kf := fun _ => ?_)
          · refine aw_iinc 10 1 (v := 1) (kk := ?_)
            refine aw_goto (-167) 278 (kk := ?_)
            exact am_W.drop [true, true, true, true, true, true, true, true, true, true, true, false, false, false] (ih x6 x7 x8 (x10 + 1) σ)
          · refine aw_aload_n 0 (kk := ?_)
            refine aw_gA 10 3 24 (hw := wd_1158) (kk := fun v53 => ?_)
            refine aw_iload 12 (kk := ?_)
            refine aw_lI (kk := fun v54 => ?_)
            refine aw_aload_n 0 (kk := ?_)
            refine aw_gA 10 3 24 (hw := wd_1158) (kk := fun v55 => ?_)
            refine aw_iload 12 (kk := ?_)
            refine aw_iconst 1 (v := 1) (kk := ?_)
            refine aw_iadd (kk := ?_)
            refine aw_lI (kk := fun v56 => ?_)
            refine aw_icmp_ne 6 383 (kt := fun _ => ?_) (kf := fun _ => ?_)
            · refine aw_iload 5 (kk := ?_)
              refine aw_if_eq 19 404 (kt := fun _ => ?_) (kf := fun _ => ?_)
              · refine aw_iload 11 (kk := ?_)
                refine aw_iload 12 (kk := ?_)
                refine aw_icmp_ne 9 417 (kt := fun _ => ?_) (kf := fun _ => ?_)
                · refine aw_iconst 0 (v := 0) (kk := ?_)
                  exact am_W.drop [true, true, true, true, true, true, true, true, true, true, true, false, false, false] (b_Md_renames_j418 F x0 x1 x2 x3 x4 x5 x6 x7 x8 x9 x10 0 (fun y6 y7 y8 y10 τ => f_Md_renames_l278 F x0 x1 x2 x5 x9 k448 n y6 y7 y8 y10 τ) (fun y6 y7 y8 y10 τ => am_W.drop [true, true, true, true, true, true, true, true, true, true, true, false, false, false] (ih y6 y7 y8 y10 τ)) σ)
                · refine aw_sipush 1000 (v := 1000) (kk := ?_)
                  refine aw_goto 4 418 (kk := ?_)
                  exact am_W.drop [true, true, true, true, true, true, true, true, true, true, true, false, false, false] (b_Md_renames_j418 F x0 x1 x2 x3 x4 x5 x6 x7 x8 x9 x10 1000 (fun y6 y7 y8 y10 τ => f_Md_renames_l278 F x0 x1 x2 x5 x9 k448 n y6 y7 y8 y10 τ) (fun y6 y7 y8 y10 τ => am_W.drop [true, true, true, true, true, true, true, true, true, true, true, false, false, false] (ih y6 y7 y8 y10 τ)) σ)
              · refine aw_aload_n 0 (kk := ?_)
                refine aw_gA 10 17 144 (hw := wd_1172) (kk := fun v58 => ?_)
                refine aw_iload 9 (kk := ?_)
                refine aw_bipush 50 (v := 50) (kk := ?_)
                refine aw_imul (kk := ?_)
                refine aw_iload 10 (kk := ?_)
                refine aw_iadd (kk := ?_)
                refine aw_lS (kk := fun v59 => ?_)
                refine aw_goto 17 418 (kk := ?_)
                exact am_W.drop [true, true, true, true, true, true, true, true, true, true, true, false, false, false] (b_Md_renames_j418 F x0 x1 x2 x3 x4 x5 x6 x7 x8 x9 x10 v59 (fun y6 y7 y8 y10 τ => f_Md_renames_l278 F x0 x1 x2 x5 x9 k448 n y6 y7 y8 y10 τ) (fun y6 y7 y8 y10 τ => am_W.drop [true, true, true, true, true, true, true, true, true, true, true, false, false, false] (ih y6 y7 y8 y10 τ)) σ)
            · refine aw_goto 62 442 (kk := ?_)
              refine aw_iinc 10 1 (v := 1) (kk := ?_)
              refine aw_goto (-167) 278 (kk := ?_)
              exact am_W.drop [true, true, true, true, true, true, true, true, true, true, true, false, false, false] (ih x6 x7 x8 (x10 + 1) σ)
        · refine aw_goto 135 442 (kk := ?_)
          refine aw_iinc 10 1 (v := 1) (kk := ?_)
          refine aw_goto (-167) 278 (kk := ?_)
          exact am_W.drop [true, true, true, true, true, true, true, true, true, true, true, false, false, false] (ih x6 x7 x8 (x10 + 1) σ)
def f_Md_renames_j448 (F : Nat) (x6 : Int32) (x7 : Int32) (x8 : Int32) (x9 : Int32) (k266 : Int32 → Int32 → Int32 → Int32 → am_S → Option (am_S)) (σ : am_S) : Option (am_S) :=
  k266 x6 x7 x8 (x9 + 1) σ
theorem b_Md_renames_j448 {g : am_G} {σ0 : am_S} (F : Nat) (x0 : Nat) (x1 : Nat) (x2 : Nat) (x3 : Nat) (x4 : Nat) (x5 : Int32) (x6 : Int32) (x7 : Int32) (x8 : Int32) (x9 : Int32) (k266 : Int32 → Int32 → Int32 → Int32 → am_S → Option (am_S)) (h266 : ∀ (y6 : Int32) (y7 : Int32) (y8 : Int32) (y9 : Int32)  (τ : am_S), am_W g mx_Md_renames σ0 266 [some (.ref x0), some (.ref x1), some (.ref x2), some (.ref x3), some (.ref x4), some (.int x5), some (.int y6), some (.int y7), some (.int y8), some (.int y9), none, none, none, none] [] τ (k266 y6 y7 y8 y9 τ) am_kV) (σ : am_S) : am_W g mx_Md_renames σ0 448 [some (.ref x0), some (.ref x1), some (.ref x2), some (.ref x3), some (.ref x4), some (.int x5), some (.int x6), some (.int x7), some (.int x8), some (.int x9), none, none, none, none] [] σ (f_Md_renames_j448 F x6 x7 x8 x9 k266 σ) am_kV := by
  unfold f_Md_renames_j448
  refine aw_iinc 9 1 (v := 1) (kk := ?_)
  refine aw_goto (-185) 266 (kk := ?_)
  exact am_W.drop [true, true, true, true, true, true, true, true, true, true, false, false, false, false] (h266 x6 x7 x8 (x9 + 1) σ)
def f_Md_renames_l266 (F : Nat) (x0 : Nat) (x1 : Nat) (x2 : Nat) (x5 : Int32) (k454 : Int32 → Int32 → Int32 → am_S → Option (am_S)) : Nat → Int32 → Int32 → Int32 → Int32 → am_S → Option (am_S)
  | 0, _, _, _, _, _ => none
  | n + 1, x6, x7, x8, x9, σ =>
    (am_gI σ 10 18 x0).bind fun v35 =>
    if v35 ≤ x9 then
      k454 x6 x7 x8 σ
    else
      f_Md_renames_l278 F x0 x1 x2 x5 x9 (fun y6 y7 y8 τ => f_Md_renames_j448 F y6 y7 y8 x9 (fun y6 y7 y8 y9 τ => f_Md_renames_l266 F x0 x1 x2 x5 k454 n y6 y7 y8 y9 τ) τ) F x6 x7 x8 0 σ
theorem b_Md_renames_l266 {g : am_G} {σ0 : am_S} (F : Nat) (x0 : Nat) (x1 : Nat) (x2 : Nat) (x3 : Nat) (x4 : Nat) (x5 : Int32) (k454 : Int32 → Int32 → Int32 → am_S → Option (am_S)) (h454 : ∀ (y6 : Int32) (y7 : Int32) (y8 : Int32)  (τ : am_S), am_W g mx_Md_renames σ0 454 [some (.ref x0), some (.ref x1), some (.ref x2), some (.ref x3), some (.ref x4), some (.int x5), some (.int y6), some (.int y7), some (.int y8), none, none, none, none, none] [] τ (k454 y6 y7 y8 τ) am_kV) : ∀ (n : Nat) (x6 : Int32) (x7 : Int32) (x8 : Int32) (x9 : Int32) (σ : am_S), am_W g mx_Md_renames σ0 266 [some (.ref x0), some (.ref x1), some (.ref x2), some (.ref x3), some (.ref x4), some (.int x5), some (.int x6), some (.int x7), some (.int x8), some (.int x9), none, none, none, none] [] σ (f_Md_renames_l266 F x0 x1 x2 x5 k454 n x6 x7 x8 x9 σ) am_kV := by
  intro n
  induction n with
  | zero =>
    intro x6 x7 x8 x9 σ
    rw [f_Md_renames_l266]
    exact am_W.none
  | succ n ih =>
    intro x6 x7 x8 x9 σ
    rw [f_Md_renames_l266]
    refine aw_iload 9 (kk := ?_)
    refine aw_aload_n 0 (kk := ?_)
    refine aw_gI 10 18 123 (hw := wd_1173) (kk := fun v35 => ?_)
    refine aw_icmp_ge 182 454 (kt := fun _ => ?_) (kf := fun _ => ?_)
    · exact am_W.drop [true, true, true, true, true, true, true, true, true, false, false, false, false, false] (h454 x6 x7 x8 σ)
    · refine aw_iconst 0 (v := 0) (kk := ?_)
      refine aw_istore 10 (kk := ?_)
      exact am_W.drop [true, true, true, true, true, true, true, true, true, true, true, false, false, false] (b_Md_renames_l278 F x0 x1 x2 x3 x4 x5 x9 (fun y6 y7 y8 τ => f_Md_renames_j448 F y6 y7 y8 x9 (fun y6 y7 y8 y9 τ => f_Md_renames_l266 F x0 x1 x2 x5 k454 n y6 y7 y8 y9 τ) τ) (fun y6 y7 y8 τ => am_W.drop [true, true, true, true, true, true, true, true, true, true, false, false, false, false] (b_Md_renames_j448 F x0 x1 x2 x3 x4 x5 y6 y7 y8 x9 (fun y6 y7 y8 y9 τ => f_Md_renames_l266 F x0 x1 x2 x5 k454 n y6 y7 y8 y9 τ) (fun y6 y7 y8 y9 τ => am_W.drop [true, true, true, true, true, true, true, true, true, true, false, false, false, false] (ih y6 y7 y8 y9 τ)) τ)) F x6 x7 x8 0 σ)
def f_Md_renames_j454 (F : Nat) (x0 : Nat) (x3 : Nat) (x4 : Nat) (x6 : Int32) (x7 : Int32) (x8 : Int32) (k252 : am_S → Option (am_S)) (σ : am_S) : Option (am_S) :=
  if 0 ≤ x7 then
    (am_gA σ 10 15 x0).bind fun v60 =>
    (am_lI σ .int v60 x7).bind fun v61 =>
    (am_gA σ 10 16 x0).bind fun v62 =>
    (am_lI σ .int v62 x8).bind fun v63 =>
    (am_sI σ x3 v61 v63).bind fun σ64 =>
    (am_gA σ64 10 15 x0).bind fun v65 =>
    (am_lI σ64 .int v65 x7).bind fun v66 =>
    (am_sI σ64 x4 v66 x6).bind fun σ67 =>
    (am_gA σ67 10 15 x0).bind fun v68 =>
    (am_sI σ67 v68 x7 (-1)).bind fun σ69 =>
    (am_gA σ69 10 16 x0).bind fun v70 =>
    (am_sI σ69 v70 x8 (-1)).bind fun σ71 =>
    k252 σ71
  else
    some σ
theorem b_Md_renames_j454 {g : am_G} {σ0 : am_S} (F : Nat) (x0 : Nat) (x1 : Nat) (x2 : Nat) (x3 : Nat) (x4 : Nat) (x5 : Int32) (x6 : Int32) (x7 : Int32) (x8 : Int32) (k252 : am_S → Option (am_S)) (h252 : ∀ (τ : am_S), am_W g mx_Md_renames σ0 252 [some (.ref x0), some (.ref x1), some (.ref x2), some (.ref x3), some (.ref x4), some (.int x5), none, none, none, none, none, none, none, none] [] τ (k252 τ) am_kV) (σ : am_S) : am_W g mx_Md_renames σ0 454 [some (.ref x0), some (.ref x1), some (.ref x2), some (.ref x3), some (.ref x4), some (.int x5), some (.int x6), some (.int x7), some (.int x8), none, none, none, none, none] [] σ (f_Md_renames_j454 F x0 x3 x4 x6 x7 x8 k252 σ) am_kV := by
  unfold f_Md_renames_j454
  refine aw_iload 7 (kk := ?_)
  refine aw_if_ge 4 460 (kt := fun _ => ?_) (kf := fun _ => ?_)
  · refine aw_aload_n 3 (kk := ?_)
    refine aw_aload_n 0 (kk := ?_)
    refine aw_gA 10 15 136 (hw := wd_1170) (kk := fun v60 => ?_)
    refine aw_iload 7 (kk := ?_)
    refine aw_lI (kk := fun v61 => ?_)
    refine aw_aload_n 0 (kk := ?_)
    refine aw_gA 10 16 139 (hw := wd_1171) (kk := fun v62 => ?_)
    refine aw_iload 8 (kk := ?_)
    refine aw_lI (kk := fun v63 => ?_)
    refine aw_sI (kk := fun σ64 => ?_)
    refine aw_aload 4 (kk := ?_)
    refine aw_aload_n 0 (kk := ?_)
    refine aw_gA 10 15 136 (hw := wd_1170) (kk := fun v65 => ?_)
    refine aw_iload 7 (kk := ?_)
    refine aw_lI (kk := fun v66 => ?_)
    refine aw_iload 6 (kk := ?_)
    refine aw_sI (kk := fun σ67 => ?_)
    refine aw_aload_n 0 (kk := ?_)
    refine aw_gA 10 15 136 (hw := wd_1170) (kk := fun v68 => ?_)
    refine aw_iload 7 (kk := ?_)
    refine aw_iconst (-1) (v := (-1)) (kk := ?_)
    refine aw_sI (kk := fun σ69 => ?_)
    refine aw_aload_n 0 (kk := ?_)
    refine aw_gA 10 16 139 (hw := wd_1171) (kk := fun v70 => ?_)
    refine aw_iload 8 (kk := ?_)
    refine aw_iconst (-1) (v := (-1)) (kk := ?_)
    refine aw_sI (kk := fun σ71 => ?_)
    refine aw_goto (-252) 252 (kk := ?_)
    exact am_W.drop [true, true, true, true, true, true, false, false, false, false, false, false, false, false] (h252 σ71)
  · exact aw_vret
def f_Md_renames_l252 (F : Nat) (x0 : Nat) (x1 : Nat) (x2 : Nat) (x3 : Nat) (x4 : Nat) (x5 : Int32)  : Nat → am_S → Option (am_S)
  | 0, _ => none
  | n + 1, σ =>
    f_Md_renames_l266 F x0 x1 x2 x5 (fun y6 y7 y8 τ => f_Md_renames_j454 F x0 x3 x4 y6 y7 y8 (fun τ => f_Md_renames_l252 F x0 x1 x2 x3 x4 x5 n τ) τ) F 499 (-1) (-1) 0 σ
theorem b_Md_renames_l252 {g : am_G} {σ0 : am_S} (F : Nat) (x0 : Nat) (x1 : Nat) (x2 : Nat) (x3 : Nat) (x4 : Nat) (x5 : Int32)   : ∀ (n : Nat) (σ : am_S), am_W g mx_Md_renames σ0 252 [some (.ref x0), some (.ref x1), some (.ref x2), some (.ref x3), some (.ref x4), some (.int x5), none, none, none, none, none, none, none, none] [] σ (f_Md_renames_l252 F x0 x1 x2 x3 x4 x5 n σ) am_kV := by
  intro n
  induction n with
  | zero =>
    intro σ
    rw [f_Md_renames_l252]
    exact am_W.none
  | succ n ih =>
    intro σ
    rw [f_Md_renames_l252]
    refine aw_sipush 499 (v := 499) (kk := ?_)
    refine aw_istore 6 (kk := ?_)
    refine aw_iconst (-1) (v := (-1)) (kk := ?_)
    refine aw_istore 7 (kk := ?_)
    refine aw_iconst (-1) (v := (-1)) (kk := ?_)
    refine aw_istore 8 (kk := ?_)
    refine aw_iconst 0 (v := 0) (kk := ?_)
    refine aw_istore 9 (kk := ?_)
    exact am_W.drop [true, true, true, true, true, true, true, true, true, true, false, false, false, false] (b_Md_renames_l266 F x0 x1 x2 x3 x4 x5 (fun y6 y7 y8 τ => f_Md_renames_j454 F x0 x3 x4 y6 y7 y8 (fun τ => f_Md_renames_l252 F x0 x1 x2 x3 x4 x5 n τ) τ) (fun y6 y7 y8 τ => am_W.drop [true, true, true, true, true, true, true, true, true, false, false, false, false, false] (b_Md_renames_j454 F x0 x1 x2 x3 x4 x5 y6 y7 y8 (fun τ => f_Md_renames_l252 F x0 x1 x2 x3 x4 x5 n τ) (fun τ => am_W.drop [true, true, true, true, true, true, false, false, false, false, false, false, false, false] (ih τ)) τ)) F 499 (-1) (-1) 0 σ)
def f_Md_renames_j142 (F : Nat) (x0 : Nat) (x1 : Nat) (x2 : Nat) (x3 : Nat) (x4 : Nat) (t19 : Int32)  (σ : am_S) : Option (am_S) :=
  f_Md_renames_l147 F x0 x1 x2 t19 (fun τ => f_Md_renames_l252 F x0 x1 x2 x3 x4 t19 F τ) F 0 σ
theorem b_Md_renames_j142 {g : am_G} {σ0 : am_S} (F : Nat) (x0 : Nat) (x1 : Nat) (x2 : Nat) (x3 : Nat) (x4 : Nat) (t19 : Int32)   (σ : am_S) : am_W g mx_Md_renames σ0 142 [some (.ref x0), some (.ref x1), some (.ref x2), some (.ref x3), some (.ref x4), none, none, none, none, none, none, none, none, none] [.int t19] σ (f_Md_renames_j142 F x0 x1 x2 x3 x4 t19 σ) am_kV := by
  unfold f_Md_renames_j142
  refine aw_istore 5 (kk := ?_)
  refine aw_iconst 0 (v := 0) (kk := ?_)
  refine aw_istore 6 (kk := ?_)
  exact am_W.drop [true, true, true, true, true, true, true, false, false, false, false, false, false, false] (b_Md_renames_l147 F x0 x1 x2 x3 x4 t19 (fun τ => f_Md_renames_l252 F x0 x1 x2 x3 x4 t19 F τ) (fun τ => am_W.drop [true, true, true, true, true, true, false, false, false, false, false, false, false, false] (b_Md_renames_l252 F x0 x1 x2 x3 x4 t19 F τ)) F 0 σ)
def f_Md_renames_j141 (F : Nat) (x0 : Nat) (x1 : Nat) (x2 : Nat) (x3 : Nat) (x4 : Nat)  (σ : am_S) : Option (am_S) :=
  f_Md_renames_j142 F x0 x1 x2 x3 x4 0 σ
theorem b_Md_renames_j141 {g : am_G} {σ0 : am_S} (F : Nat) (x0 : Nat) (x1 : Nat) (x2 : Nat) (x3 : Nat) (x4 : Nat)   (σ : am_S) : am_W g mx_Md_renames σ0 141 [some (.ref x0), some (.ref x1), some (.ref x2), some (.ref x3), some (.ref x4), none, none, none, none, none, none, none, none, none] [] σ (f_Md_renames_j141 F x0 x1 x2 x3 x4 σ) am_kV := by
  unfold f_Md_renames_j141
  refine aw_iconst 0 (v := 0) (kk := ?_)
  exact am_W.drop [true, true, true, true, true, false, false, false, false, false, false, false, false, false] (b_Md_renames_j142 F x0 x1 x2 x3 x4 0 σ)
def f_Md_renames_j119 (F : Nat) (x0 : Nat) (x1 : Nat) (x2 : Nat) (x3 : Nat) (x4 : Nat)  (σ : am_S) : Option (am_S) :=
  (am_gI σ 10 18 x0).bind fun v18 =>
  if 50 < v18 then
    f_Md_renames_j141 F x0 x1 x2 x3 x4 σ
  else
    (am_gI σ 10 19 x0).bind fun v72 =>
    if 50 < v72 then
      f_Md_renames_j141 F x0 x1 x2 x3 x4 σ
    else
      f_Md_renames_j142 F x0 x1 x2 x3 x4 1 σ
theorem b_Md_renames_j119 {g : am_G} {σ0 : am_S} (F : Nat) (x0 : Nat) (x1 : Nat) (x2 : Nat) (x3 : Nat) (x4 : Nat)   (σ : am_S) : am_W g mx_Md_renames σ0 119 [some (.ref x0), some (.ref x1), some (.ref x2), some (.ref x3), some (.ref x4), none, none, none, none, none, none, none, none, none] [] σ (f_Md_renames_j119 F x0 x1 x2 x3 x4 σ) am_kV := by
  unfold f_Md_renames_j119
  refine aw_aload_n 0 (kk := ?_)
  refine aw_gI 10 18 123 (hw := wd_1173) (kk := fun v18 => ?_)
  refine aw_bipush 50 (v := 50) (kk := ?_)
  refine aw_icmp_gt 16 141 (kt := fun _ => ?_) (kf := fun _ => ?_)
  · exact am_W.drop [true, true, true, true, true, false, false, false, false, false, false, false, false, false] (b_Md_renames_j141 F x0 x1 x2 x3 x4 σ)
  · refine aw_aload_n 0 (kk := ?_)
    refine aw_gI 10 19 126 (hw := wd_1174) (kk := fun v72 => ?_)
    refine aw_bipush 50 (v := 50) (kk := ?_)
    refine aw_icmp_gt 7 141 (kt := fun _ => ?_) (kf := fun _ => ?_)
    · exact am_W.drop [true, true, true, true, true, false, false, false, false, false, false, false, false, false] (b_Md_renames_j141 F x0 x1 x2 x3 x4 σ)
    · refine aw_iconst 1 (v := 1) (kk := ?_)
      refine aw_goto 4 142 (kk := ?_)
      exact am_W.drop [true, true, true, true, true, false, false, false, false, false, false, false, false, false] (b_Md_renames_j142 F x0 x1 x2 x3 x4 1 σ)
def f_Md_renames_j67 (F : Nat) (x0 : Nat) (x1 : Nat) (x2 : Nat) (x3 : Nat) (x4 : Nat)  (σ : am_S) : Option (am_S) :=
  f_Md_renames_l70 F x0 x1 x2 (fun τ => f_Md_renames_j119 F x0 x1 x2 x3 x4 τ) F 0 σ
theorem b_Md_renames_j67 {g : am_G} {σ0 : am_S} (F : Nat) (x0 : Nat) (x1 : Nat) (x2 : Nat) (x3 : Nat) (x4 : Nat)   (σ : am_S) : am_W g mx_Md_renames σ0 67 [some (.ref x0), some (.ref x1), some (.ref x2), some (.ref x3), some (.ref x4), none, none, none, none, none, none, none, none, none] [] σ (f_Md_renames_j67 F x0 x1 x2 x3 x4 σ) am_kV := by
  unfold f_Md_renames_j67
  refine aw_iconst 0 (v := 0) (kk := ?_)
  refine aw_istore 5 (kk := ?_)
  exact am_W.drop [true, true, true, true, true, true, false, false, false, false, false, false, false, false] (b_Md_renames_l70 F x0 x1 x2 x3 x4 (fun τ => f_Md_renames_j119 F x0 x1 x2 x3 x4 τ) (fun τ => am_W.drop [true, true, true, true, true, false, false, false, false, false, false, false, false, false] (b_Md_renames_j119 F x0 x1 x2 x3 x4 τ)) F 0 σ)
def f_Md_renames (F : Nat) (σ : am_S) (x0 : Nat) (x1 : Nat) (x2 : Nat) (x3 : Nat) (x4 : Nat) : Option (am_S) :=
  am_ck σ 10 x0 (
  (am_pI σ 10 18 x0 0).bind fun σ1 =>
  (am_pI σ1 10 19 x0 0).bind fun σ2 =>
  f_Md_renames_l13 F x0 x1 x2 x3 (fun τ => f_Md_renames_j67 F x0 x1 x2 x3 x4 τ) F 0 σ2)
theorem rc_Md_renames {F : Nat} {σ : am_S} {x0 : Nat} {x1 : Nat} {x2 : Nat} {x3 : Nat} {x4 : Nat} (h : (f_Md_renames F σ x0 x1 x2 x3 x4).isSome = true) : ∃ fs, σ.2.2 x0 = some (.inr (10, fs)) := am_ck_some h
theorem m_Md_renames (g : am_G) (F : Nat) (σ : am_S) (x0 : Nat) (x1 : Nat) (x2 : Nat) (x3 : Nat) (x4 : Nat) : am_Met g mx_Md_renames [.ref x0, .ref x1, .ref x2, .ref x3, .ref x4] σ ((f_Md_renames F σ x0 x1 x2 x3 x4).bind am_kV) := by
  refine am_Met.of (lv := [some (.ref x0), some (.ref x1), some (.ref x2), some (.ref x3), some (.ref x4), none, none, none, none, none, none, none, none, none]) (am_cc rfl (am_cc rfl (am_cc rfl (am_cc rfl (am_cc rfl am_c0))))) (Nat.le_of_ble_eq_true rfl) rfl (by decide) ?_
  unfold f_Md_renames
  refine am_W.ck ?_
  refine aw_aload_n 0 (kk := ?_)
  refine aw_iconst 0 (v := 0) (kk := ?_)
  refine aw_pI 10 18 123 (hw := wd_1173) (kk := fun σ1 => ?_)
  refine aw_aload_n 0 (kk := ?_)
  refine aw_iconst 0 (v := 0) (kk := ?_)
  refine aw_pI 10 19 126 (hw := wd_1174) (kk := fun σ2 => ?_)
  refine aw_iconst 0 (v := 0) (kk := ?_)
  refine aw_istore 5 (kk := ?_)
  exact am_W.drop [true, true, true, true, true, true, false, false, false, false, false, false, false, false] (b_Md_renames_l13 F x0 x1 x2 x3 x4 (fun τ => f_Md_renames_j67 F x0 x1 x2 x3 x4 τ) (fun τ => am_W.drop [true, true, true, true, true, false, false, false, false, false, false, false, false, false] (b_Md_renames_j67 F x0 x1 x2 x3 x4 τ)) F 0 σ2)
def f_Md_freshBlob_j42 (F : Nat) (x0 : Nat) (x1 : Nat) (t6 : Int32)  (σ : am_S) : Option ((Nat ⊕ Int32) × am_S) :=
  am_bt (f_Md_allow F σ t6) (fun a7 σ8 => some (.inl a7, σ8)) fun _ σ10 =>
  (am_gA σ10 10 30 x0).bind fun v11 =>
  am_b2 (f_Ro_addc F σ10 v11 x1) fun v12 σ13 =>
  (am_gI σ13 10 33 x0).bind fun v14 =>
  (am_pI σ13 10 33 x0 (v14 + 1)).bind fun σ15 =>
  (am_gA σ15 10 32 x0).bind fun v16 =>
  (am_gI σ15 10 33 x0).bind fun v17 =>
  (am_gA σ15 10 30 x0).bind fun v18 =>
  (am_gI σ15 12 1 v18).bind fun v19 =>
  (am_sI σ15 v16 v17 v19).bind fun σ20 =>
  (am_gI σ20 10 33 x0).bind fun v21 =>
  some (.inr ((-1) - v21), σ20)
theorem b_Md_freshBlob_j42 {g : am_G} {σ0 : am_S} (F : Nat) (x0 : Nat) (x1 : Nat) (t6 : Int32)   (σ : am_S) : am_W g mx_Md_freshBlob σ0 42 [some (.ref x0), some (.ref x1), none, none] [.int t6] σ (f_Md_freshBlob_j42 F x0 x1 t6 σ) am_kTI := by
  unfold f_Md_freshBlob_j42
  refine ac_TV (st := []) [.int t6] (ag_S 161 wd_1467 cal_Md_allow wd_1468) cal_Md_allow ⟨by decide, by decide⟩ (Nat.le_of_ble_eq_true rfl) (m_Md_allow g F σ t6) (fun a7 σ8 => ?_) (fun σ10 => ?_)
  · exact at_outI
  refine aw_aload_n 0 (kk := ?_)
  refine aw_gA 10 30 151 (hw := wd_1185) (kk := fun v11 => ?_)
  refine aw_aload_n 1 (kk := ?_)
  refine ac_A (st := []) [.ref v11, .ref x1] (ag_V 165 12 rc_Ro_addc wd_1385 cal_Ro_addc wd_1313 wd_1314) cal_Ro_addc ⟨by decide, by decide⟩ (Nat.le_of_ble_eq_true rfl) (m_Ro_addc g F σ10 v11 x1) (fun v12 σ13 => ?_)
  refine aw_pop (kk := ?_)
  refine aw_aload_n 0 (kk := ?_)
  refine aw_dup (kk := ?_)
  refine aw_gI 10 33 167 (hw := wd_1188) (kk := fun v14 => ?_)
  refine aw_iconst 1 (v := 1) (kk := ?_)
  refine aw_iadd (kk := ?_)
  refine aw_pI 10 33 167 (hw := wd_1188) (kk := fun σ15 => ?_)
  refine aw_aload_n 0 (kk := ?_)
  refine aw_gA 10 32 154 (hw := wd_1187) (kk := fun v16 => ?_)
  refine aw_aload_n 0 (kk := ?_)
  refine aw_gI 10 33 167 (hw := wd_1188) (kk := fun v17 => ?_)
  refine aw_aload_n 0 (kk := ?_)
  refine aw_gA 10 30 151 (hw := wd_1185) (kk := fun v18 => ?_)
  refine aw_gI 12 1 7 (hw := wd_1116) (kk := fun v19 => ?_)
  refine aw_sI (kk := fun σ20 => ?_)
  refine aw_iconst (-1) (v := (-1)) (kk := ?_)
  refine aw_aload_n 0 (kk := ?_)
  refine aw_gI 10 33 167 (hw := wd_1188) (kk := fun v21 => ?_)
  refine aw_isub (kk := ?_)
  exact aw_iretT
def f_Md_freshBlob_j13 (F : Nat) (x0 : Nat) (x1 : Nat) (t2 : Int32)  (σ : am_S) : Option ((Nat ⊕ Int32) × am_S) :=
  if t2 < 0 then
    (am_gA σ 10 30 x0).bind fun v3 =>
    (am_gI σ 12 1 v3).bind fun v4 =>
    (am_gI σ 12 1 x1).bind fun v5 =>
    if 65536 < (v4 + v5) then
      f_Md_freshBlob_j42 F x0 x1 0 σ
    else
      f_Md_freshBlob_j42 F x0 x1 1 σ
  else
    some (.inr t2, σ)
theorem b_Md_freshBlob_j13 {g : am_G} {σ0 : am_S} (F : Nat) (x0 : Nat) (x1 : Nat) (t2 : Int32)   (σ : am_S) : am_W g mx_Md_freshBlob σ0 13 [some (.ref x0), some (.ref x1), none, none] [.int t2] σ (f_Md_freshBlob_j13 F x0 x1 t2 σ) am_kTI := by
  unfold f_Md_freshBlob_j13
  refine aw_istore_n 3 (kk := ?_)
  refine aw_iload_n 3 (kk := ?_)
  refine aw_if_lt 5 20 (kt := fun _ => ?_) (kf := fun _ => ?_)
  · refine aw_aload_n 0 (kk := ?_)
    refine aw_gA 10 30 151 (hw := wd_1185) (kk := fun v3 => ?_)
    refine aw_gI 12 1 7 (hw := wd_1116) (kk := fun v4 => ?_)
    refine aw_aload_n 1 (kk := ?_)
    refine aw_gI 12 1 7 (hw := wd_1116) (kk := fun v5 => ?_)
    refine aw_iadd (kk := ?_)
    refine aw_ldc 111 (v := 65536) (hw := wd_1502) (kk := ?_)
    refine aw_icmp_gt 7 41 (kt := fun _ => ?_) (kf := fun _ => ?_)
    · refine aw_iconst 0 (v := 0) (kk := ?_)
      exact am_W.drop [true, true, false, false] (b_Md_freshBlob_j42 F x0 x1 0 σ)
    · refine aw_iconst 1 (v := 1) (kk := ?_)
      refine aw_goto 4 42 (kk := ?_)
      exact am_W.drop [true, true, false, false] (b_Md_freshBlob_j42 F x0 x1 1 σ)
  · refine aw_iload_n 3 (kk := ?_)
    exact aw_iretT
def f_Md_freshBlob (F : Nat) (σ : am_S) (x0 : Nat) (x1 : Nat) (x2 : Int32) : Option ((Nat ⊕ Int32) × am_S) :=
  am_ck σ 10 x0 (
  if x2 = 0 then
    (f_Md_blobOf F σ x0 x1).bind fun v1 =>
    f_Md_freshBlob_j13 F x0 x1 v1 σ
  else
    f_Md_freshBlob_j13 F x0 x1 (-1) σ)
theorem rc_Md_freshBlob {F : Nat} {σ : am_S} {x0 : Nat} {x1 : Nat} {x2 : Int32} (h : (f_Md_freshBlob F σ x0 x1 x2).isSome = true) : ∃ fs, σ.2.2 x0 = some (.inr (10, fs)) := am_ck_some h
theorem m_Md_freshBlob (g : am_G) (F : Nat) (σ : am_S) (x0 : Nat) (x1 : Nat) (x2 : Int32) : am_Met g mx_Md_freshBlob [.ref x0, .ref x1, .int x2] σ ((f_Md_freshBlob F σ x0 x1 x2).bind am_kTI) := by
  refine am_Met.of (lv := [some (.ref x0), some (.ref x1), some (.int x2), none]) (am_cc rfl (am_cc rfl (am_cc rfl am_c0))) (Nat.le_of_ble_eq_true rfl) rfl (by decide) ?_
  unfold f_Md_freshBlob
  refine am_W.ck ?_
  refine aw_iload_n 2 (kk := ?_)
  refine aw_if_eq 7 8 (kt := fun _ => ?_) (kf := fun _ => ?_)
  · refine aw_aload_n 0 (kk := ?_)
    refine aw_aload_n 1 (kk := ?_)
    refine ac_PI (st := []) [.ref x0, .ref x1] (ag_V 157 10 rc_Md_blobOf wd_1342 cal_Md_blobOf wd_1344 ws_44) cal_Md_blobOf ⟨by decide, by decide⟩ (Nat.le_of_ble_eq_true rfl) (m_Md_blobOf g F σ x0 x1) (fun v1 => ?_)
    exact am_W.drop [true, true, false, false] (b_Md_freshBlob_j13 F x0 x1 v1 σ)
  · refine aw_iconst (-1) (v := (-1)) (kk := ?_)
    refine aw_goto 8 13 (kk := ?_)
    exact am_W.drop [true, true, false, false] (b_Md_freshBlob_j13 F x0 x1 (-1) σ)
def f_Md_outcomea_j97 (F : Nat) (t23 : Int32)  (σ : am_S) : Option ((Nat ⊕ Unit) × am_S) :=
  am_bt (f_Md_allow F σ t23) (fun a24 σ25 => some (.inl a24, σ25)) fun _ σ27 =>
  some (.inr (), σ27)
theorem b_Md_outcomea_j97 {g : am_G} {σ0 : am_S} (F : Nat) (t23 : Int32)   (σ : am_S) : am_W g mx_Md_outcomea σ0 97 [none, none, none, none, none, none, none, none, none] [.int t23] σ (f_Md_outcomea_j97 F t23 σ) am_kTV := by
  unfold f_Md_outcomea_j97
  refine ac_TV (st := []) [.int t23] (ag_S 161 wd_1467 cal_Md_allow wd_1468) cal_Md_allow ⟨by decide, by decide⟩ (Nat.le_of_ble_eq_true rfl) (m_Md_allow g F σ t23) (fun a24 σ25 => ?_) (fun σ27 => ?_)
  · exact at_outV
  exact aw_vretT
def f_Md_outcomea (F : Nat) (σ : am_S) (x0 : Nat) (x1 : Nat) (x2 : Int32) (x3 : Int32) (x4 : Int32) (x5 : Int32) (x6 : Int32) (x7 : Int32) : Option ((Nat ⊕ Unit) × am_S) :=
  am_ck σ 10 x0 (
  (am_gA σ 10 23 x0).bind fun v1 =>
  (am_gA σ 11 0 x1).bind fun v2 =>
  (am_gA σ 11 1 x1).bind fun v3 =>
  (am_lI σ .int v3 x2).bind fun v4 =>
  (am_gA σ 11 1 x1).bind fun v5 =>
  (am_lI σ .int v5 (x2 + 1)).bind fun v6 =>
  am_b2 (f_Ps_add F σ v1 v2 v4 v6) fun v7 σ8 =>
  (am_gA σ8 10 23 x0).bind fun v9 =>
  (am_gA σ8 11 2 v9).bind fun v10 =>
  (am_sI σ8 v10 (3 * v7) x3).bind fun σ11 =>
  (am_gA σ11 10 23 x0).bind fun v12 =>
  (am_gA σ11 11 3 v12).bind fun v13 =>
  (am_sZ σ11 v13 v7 x4).bind fun σ14 =>
  (am_gA σ14 10 35 x0).bind fun v15 =>
  (am_sI σ14 v15 v7 x6).bind fun σ16 =>
  (am_gA σ16 10 36 x0).bind fun v17 =>
  (am_sI σ16 v17 v7 x7).bind fun σ18 =>
  (am_gA σ18 10 34 x0).bind fun v19 =>
  (am_sI σ18 v19 v7 x5).bind fun σ20 =>
  (am_gA σ20 10 23 x0).bind fun v21 =>
  (am_gI σ20 11 4 v21).bind fun v22 =>
  if 1600 ≤ v22 then
    f_Md_outcomea_j97 F 0 σ20
  else
    f_Md_outcomea_j97 F 1 σ20)
theorem rc_Md_outcomea {F : Nat} {σ : am_S} {x0 : Nat} {x1 : Nat} {x2 : Int32} {x3 : Int32} {x4 : Int32} {x5 : Int32} {x6 : Int32} {x7 : Int32} (h : (f_Md_outcomea F σ x0 x1 x2 x3 x4 x5 x6 x7).isSome = true) : ∃ fs, σ.2.2 x0 = some (.inr (10, fs)) := am_ck_some h
theorem m_Md_outcomea (g : am_G) (F : Nat) (σ : am_S) (x0 : Nat) (x1 : Nat) (x2 : Int32) (x3 : Int32) (x4 : Int32) (x5 : Int32) (x6 : Int32) (x7 : Int32) : am_Met g mx_Md_outcomea [.ref x0, .ref x1, .int x2, .int x3, .int x4, .int x5, .int x6, .int x7] σ ((f_Md_outcomea F σ x0 x1 x2 x3 x4 x5 x6 x7).bind am_kTV) := by
  refine am_Met.of (lv := [some (.ref x0), some (.ref x1), some (.int x2), some (.int x3), some (.int x4), some (.int x5), some (.int x6), some (.int x7), none]) (am_cc rfl (am_cc rfl (am_cc rfl (am_cc rfl (am_cc rfl (am_cc rfl (am_cc rfl (am_cc rfl am_c0)))))))) (Nat.le_of_ble_eq_true rfl) rfl (by decide) ?_
  unfold f_Md_outcomea
  refine am_W.ck ?_
  refine aw_aload_n 0 (kk := ?_)
  refine aw_gA 10 23 170 (hw := wd_1178) (kk := fun v1 => ?_)
  refine aw_aload_n 1 (kk := ?_)
  refine aw_gA 11 0 174 (hw := wd_1124) (kk := fun v2 => ?_)
  refine aw_aload_n 1 (kk := ?_)
  refine aw_gA 11 1 177 (hw := wd_1126) (kk := fun v3 => ?_)
  refine aw_iload_n 2 (kk := ?_)
  refine aw_lI (kk := fun v4 => ?_)
  refine aw_aload_n 1 (kk := ?_)
  refine aw_gA 11 1 177 (hw := wd_1126) (kk := fun v5 => ?_)
  refine aw_iload_n 2 (kk := ?_)
  refine aw_iconst 1 (v := 1) (kk := ?_)
  refine aw_iadd (kk := ?_)
  refine aw_lI (kk := fun v6 => ?_)
  refine ac_I (st := []) [.ref v1, .ref v2, .int v4, .int v6] (ag_V 180 11 rc_Ps_add wd_1371 cal_Ps_add wd_1367 wd_1368) cal_Ps_add ⟨by decide, by decide⟩ (Nat.le_of_ble_eq_true rfl) (m_Ps_add g F σ v1 v2 v4 v6) (fun v7 σ8 => ?_)
  refine aw_istore 8 (kk := ?_)
  refine aw_aload_n 0 (kk := ?_)
  refine aw_gA 10 23 170 (hw := wd_1178) (kk := fun v9 => ?_)
  refine aw_gA 11 2 142 (hw := wd_1128) (kk := fun v10 => ?_)
  refine aw_iconst 3 (v := 3) (kk := ?_)
  refine aw_iload 8 (kk := ?_)
  refine aw_imul (kk := ?_)
  refine aw_iload_n 3 (kk := ?_)
  refine aw_sI (kk := fun σ11 => ?_)
  refine aw_aload_n 0 (kk := ?_)
  refine aw_gA 10 23 170 (hw := wd_1178) (kk := fun v12 => ?_)
  refine aw_gA 11 3 183 (hw := wd_1130) (kk := fun v13 => ?_)
  refine aw_iload 8 (kk := ?_)
  refine aw_iload 4 (kk := ?_)
  refine aw_sZ (kk := fun σ14 => ?_)
  refine aw_aload_n 0 (kk := ?_)
  refine aw_gA 10 35 187 (hw := wd_1190) (kk := fun v15 => ?_)
  refine aw_iload 8 (kk := ?_)
  refine aw_iload 6 (kk := ?_)
  refine aw_sI (kk := fun σ16 => ?_)
  refine aw_aload_n 0 (kk := ?_)
  refine aw_gA 10 36 190 (hw := wd_1191) (kk := fun v17 => ?_)
  refine aw_iload 8 (kk := ?_)
  refine aw_iload 7 (kk := ?_)
  refine aw_sI (kk := fun σ18 => ?_)
  refine aw_aload_n 0 (kk := ?_)
  refine aw_gA 10 34 193 (hw := wd_1189) (kk := fun v19 => ?_)
  refine aw_iload 8 (kk := ?_)
  refine aw_iload 5 (kk := ?_)
  refine aw_sI (kk := fun σ20 => ?_)
  refine aw_aload_n 0 (kk := ?_)
  refine aw_gA 10 23 170 (hw := wd_1178) (kk := fun v21 => ?_)
  refine aw_gI 11 4 129 (hw := wd_1132) (kk := fun v22 => ?_)
  refine aw_sipush 1600 (v := 1600) (kk := ?_)
  refine aw_icmp_ge 7 96 (kt := fun _ => ?_) (kf := fun _ => ?_)
  · refine aw_iconst 0 (v := 0) (kk := ?_)
    exact am_W.drop [false, false, false, false, false, false, false, false, false] (b_Md_outcomea_j97 F 0 σ20)
  · refine aw_iconst 1 (v := 1) (kk := ?_)
    refine aw_goto 4 97 (kk := ?_)
    exact am_W.drop [false, false, false, false, false, false, false, false, false] (b_Md_outcomea_j97 F 1 σ20)
def f_Md_decide_j178 (F : Nat) (x1 : Int32) (x2 : Int32) (x3 : Int32) (t18 : Nat) (t19 : Nat) (t20 : Int32) (t21 : Int32) (t22 : Int32)  (σ : am_S) : Option ((Nat ⊕ Unit) × am_S) :=
  am_bt (f_Md_outcomea F σ t18 t19 t20 t21 t22 x1 x2 x3) (fun a23 σ24 => some (.inl a23, σ24)) fun _ σ26 =>
  some (.inr (), σ26)
theorem b_Md_decide_j178 {g : am_G} {σ0 : am_S} (F : Nat) (x1 : Int32) (x2 : Int32) (x3 : Int32) (t18 : Nat) (t19 : Nat) (t20 : Int32) (t21 : Int32) (t22 : Int32)   (σ : am_S) : am_W g mx_Md_decide σ0 178 [none, some (.int x1), some (.int x2), some (.int x3), none, none, none, none, none, none, none] [.int t22, .int t21, .int t20, .ref t19, .ref t18] σ (f_Md_decide_j178 F x1 x2 x3 t18 t19 t20 t21 t22 σ) am_kTV := by
  unfold f_Md_decide_j178
  refine aw_iload_n 1 (kk := ?_)
  refine aw_iload_n 2 (kk := ?_)
  refine aw_iload_n 3 (kk := ?_)
  refine ac_TV (st := []) [.ref t18, .ref t19, .int t20, .int t21, .int t22, .int x1, .int x2, .int x3] (ag_V 209 10 rc_Md_outcomea wd_1463 cal_Md_outcomea wd_1465 ws_57) cal_Md_outcomea ⟨by decide, by decide⟩ (Nat.le_of_ble_eq_true rfl) (m_Md_outcomea g F σ t18 t19 t20 t21 t22 x1 x2 x3) (fun a23 σ24 => ?_) (fun σ26 => ?_)
  · exact at_outV
  exact aw_vretT
def f_Md_decide_j162 (F : Nat) (x0 : Nat) (x1 : Int32) (x2 : Int32) (x3 : Int32) (x8 : Nat) (x9 : Int32) (x10 : Int32)  (σ : am_S) : Option ((Nat ⊕ Unit) × am_S) :=
  if x1 < 0 then
    f_Md_decide_j178 F x1 x2 x3 x0 x8 x9 x10 0 σ
  else
    f_Md_decide_j178 F x1 x2 x3 x0 x8 x9 x10 1 σ
theorem b_Md_decide_j162 {g : am_G} {σ0 : am_S} (F : Nat) (x0 : Nat) (x1 : Int32) (x2 : Int32) (x3 : Int32) (x8 : Nat) (x9 : Int32) (x10 : Int32)   (σ : am_S) : am_W g mx_Md_decide σ0 162 [some (.ref x0), some (.int x1), some (.int x2), some (.int x3), none, none, none, none, some (.ref x8), some (.int x9), some (.int x10)] [] σ (f_Md_decide_j162 F x0 x1 x2 x3 x8 x9 x10 σ) am_kTV := by
  unfold f_Md_decide_j162
  refine aw_aload_n 0 (kk := ?_)
  refine aw_aload 8 (kk := ?_)
  refine aw_iload 9 (kk := ?_)
  refine aw_iload 10 (kk := ?_)
  refine aw_iload_n 1 (kk := ?_)
  refine aw_if_lt 7 177 (kt := fun _ => ?_) (kf := fun _ => ?_)
  · refine aw_iconst 0 (v := 0) (kk := ?_)
    exact am_W.drop [false, true, true, true, false, false, false, false, false, false, false] (b_Md_decide_j178 F x1 x2 x3 x0 x8 x9 x10 0 σ)
  · refine aw_iconst 1 (v := 1) (kk := ?_)
    refine aw_goto 4 178 (kk := ?_)
    exact am_W.drop [false, true, true, true, false, false, false, false, false, false, false] (b_Md_decide_j178 F x1 x2 x3 x0 x8 x9 x10 1 σ)
def f_Md_decide_j133 (F : Nat) (x0 : Nat) (x1 : Int32) (x2 : Int32) (x3 : Int32) (x4 : Int32) (x8 : Nat) (x9 : Int32) (t17 : Int32)  (σ : am_S) : Option ((Nat ⊕ Unit) × am_S) :=
  if x1 < 0 then
    f_Md_decide_j162 F x0 x1 x2 x3 x8 x9 t17 σ
  else
    if t17 = x4 then
      (am_gA σ 10 20 x0).bind fun v27 =>
      (f_Ps_comparea F σ x8 x9 v27 x1).bind fun v28 =>
      if v28 = 0 then
        some (.inr (), σ)
      else
        f_Md_decide_j162 F x0 x1 x2 x3 x8 x9 t17 σ
    else
      f_Md_decide_j162 F x0 x1 x2 x3 x8 x9 t17 σ
theorem b_Md_decide_j133 {g : am_G} {σ0 : am_S} (F : Nat) (x0 : Nat) (x1 : Int32) (x2 : Int32) (x3 : Int32) (x4 : Int32) (x8 : Nat) (x9 : Int32) (t17 : Int32)   (σ : am_S) : am_W g mx_Md_decide σ0 133 [some (.ref x0), some (.int x1), some (.int x2), some (.int x3), some (.int x4), none, none, none, some (.ref x8), some (.int x9), none] [.int t17] σ (f_Md_decide_j133 F x0 x1 x2 x3 x4 x8 x9 t17 σ) am_kTV := by
  unfold f_Md_decide_j133
  refine aw_istore 10 (kk := ?_)
  refine aw_iload_n 1 (kk := ?_)
  refine aw_if_lt 26 162 (kt := fun _ => ?_) (kf := fun _ => ?_)
  · exact am_W.drop [true, true, true, true, false, false, false, false, true, true, true] (b_Md_decide_j162 F x0 x1 x2 x3 x8 x9 t17 σ)
  · refine aw_iload 10 (kk := ?_)
    refine aw_iload 4 (kk := ?_)
    refine aw_icmp_ne 19 162 (kt := fun _ => ?_) (kf := fun _ => ?_)
    · exact am_W.drop [true, true, true, true, false, false, false, false, true, true, true] (b_Md_decide_j162 F x0 x1 x2 x3 x8 x9 t17 σ)
    · refine aw_aload 8 (kk := ?_)
      refine aw_iload 9 (kk := ?_)
      refine aw_aload_n 0 (kk := ?_)
      refine aw_gA 10 20 196 (hw := wd_1175) (kk := fun v27 => ?_)
      refine aw_iload_n 1 (kk := ?_)
      refine ac_PI (st := []) [.ref x8, .int x9, .ref v27, .int x1] (ag_V 205 11 rc_Ps_comparea wd_1462 cal_Ps_comparea wd_1423 wd_1424) cal_Ps_comparea ⟨by decide, by decide⟩ (Nat.le_of_ble_eq_true rfl) (m_Ps_comparea g F σ x8 x9 v27 x1) (fun v28 => ?_)
      refine aw_if_ne 4 162 (kt := fun _ => ?_) (kf := fun _ => ?_)
      · exact am_W.drop [true, true, true, true, false, false, false, false, true, true, true] (b_Md_decide_j162 F x0 x1 x2 x3 x8 x9 t17 σ)
      · exact aw_vretT
def f_Md_decide_j119 (F : Nat) (x0 : Nat) (x1 : Int32) (x2 : Int32) (x3 : Int32) (x4 : Int32) (x5 : Int32) (x6 : Int32) (x7 : Int32) (x8 : Nat) (t16 : Int32)  (σ : am_S) : Option ((Nat ⊕ Unit) × am_S) :=
  if x7 = 0 then
    f_Md_decide_j133 F x0 x1 x2 x3 x4 x8 t16 x6 σ
  else
    f_Md_decide_j133 F x0 x1 x2 x3 x4 x8 t16 x5 σ
theorem b_Md_decide_j119 {g : am_G} {σ0 : am_S} (F : Nat) (x0 : Nat) (x1 : Int32) (x2 : Int32) (x3 : Int32) (x4 : Int32) (x5 : Int32) (x6 : Int32) (x7 : Int32) (x8 : Nat) (t16 : Int32)   (σ : am_S) : am_W g mx_Md_decide σ0 119 [some (.ref x0), some (.int x1), some (.int x2), some (.int x3), some (.int x4), some (.int x5), some (.int x6), some (.int x7), some (.ref x8), none, none] [.int t16] σ (f_Md_decide_j119 F x0 x1 x2 x3 x4 x5 x6 x7 x8 t16 σ) am_kTV := by
  unfold f_Md_decide_j119
  refine aw_istore 9 (kk := ?_)
  refine aw_iload 7 (kk := ?_)
  refine aw_if_eq 8 131 (kt := fun _ => ?_) (kf := fun _ => ?_)
  · refine aw_iload 6 (kk := ?_)
    exact am_W.drop [true, true, true, true, true, false, false, false, true, true, false] (b_Md_decide_j133 F x0 x1 x2 x3 x4 x8 t16 x6 σ)
  · refine aw_iload 5 (kk := ?_)
    refine aw_goto 5 133 (kk := ?_)
    exact am_W.drop [true, true, true, true, true, false, false, false, true, true, false] (b_Md_decide_j133 F x0 x1 x2 x3 x4 x8 t16 x5 σ)
def f_Md_decide_j107 (F : Nat) (x0 : Nat) (x1 : Int32) (x2 : Int32) (x3 : Int32) (x4 : Int32) (x5 : Int32) (x6 : Int32) (x7 : Int32) (t15 : Nat)  (σ : am_S) : Option ((Nat ⊕ Unit) × am_S) :=
  if x7 = 0 then
    f_Md_decide_j119 F x0 x1 x2 x3 x4 x5 x6 x7 t15 x3 σ
  else
    f_Md_decide_j119 F x0 x1 x2 x3 x4 x5 x6 x7 t15 x2 σ
theorem b_Md_decide_j107 {g : am_G} {σ0 : am_S} (F : Nat) (x0 : Nat) (x1 : Int32) (x2 : Int32) (x3 : Int32) (x4 : Int32) (x5 : Int32) (x6 : Int32) (x7 : Int32) (t15 : Nat)   (σ : am_S) : am_W g mx_Md_decide σ0 107 [some (.ref x0), some (.int x1), some (.int x2), some (.int x3), some (.int x4), some (.int x5), some (.int x6), some (.int x7), none, none, none] [.ref t15] σ (f_Md_decide_j107 F x0 x1 x2 x3 x4 x5 x6 x7 t15 σ) am_kTV := by
  unfold f_Md_decide_j107
  refine aw_astore 8 (kk := ?_)
  refine aw_iload 7 (kk := ?_)
  refine aw_if_eq 7 118 (kt := fun _ => ?_) (kf := fun _ => ?_)
  · refine aw_iload_n 3 (kk := ?_)
    exact am_W.drop [true, true, true, true, true, true, true, true, true, false, false] (b_Md_decide_j119 F x0 x1 x2 x3 x4 x5 x6 x7 t15 x3 σ)
  · refine aw_iload_n 2 (kk := ?_)
    refine aw_goto 4 119 (kk := ?_)
    exact am_W.drop [true, true, true, true, true, true, true, true, true, false, false] (b_Md_decide_j119 F x0 x1 x2 x3 x4 x5 x6 x7 t15 x2 σ)
def f_Md_decide_j89 (F : Nat) (x0 : Nat) (x1 : Int32) (x2 : Int32) (x3 : Int32) (x4 : Int32) (x5 : Int32) (x6 : Int32) (t13 : Int32)  (σ : am_S) : Option ((Nat ⊕ Unit) × am_S) :=
  if t13 = 0 then
    (am_gA σ 10 22 x0).bind fun v14 =>
    f_Md_decide_j107 F x0 x1 x2 x3 x4 x5 x6 t13 v14 σ
  else
    (am_gA σ 10 21 x0).bind fun v29 =>
    f_Md_decide_j107 F x0 x1 x2 x3 x4 x5 x6 t13 v29 σ
theorem b_Md_decide_j89 {g : am_G} {σ0 : am_S} (F : Nat) (x0 : Nat) (x1 : Int32) (x2 : Int32) (x3 : Int32) (x4 : Int32) (x5 : Int32) (x6 : Int32) (t13 : Int32)   (σ : am_S) : am_W g mx_Md_decide σ0 89 [some (.ref x0), some (.int x1), some (.int x2), some (.int x3), some (.int x4), some (.int x5), some (.int x6), none, none, none, none] [.int t13] σ (f_Md_decide_j89 F x0 x1 x2 x3 x4 x5 x6 t13 σ) am_kTV := by
  unfold f_Md_decide_j89
  refine aw_istore 7 (kk := ?_)
  refine aw_iload 7 (kk := ?_)
  refine aw_if_eq 10 103 (kt := fun _ => ?_) (kf := fun _ => ?_)
  · refine aw_aload_n 0 (kk := ?_)
    refine aw_gA 10 22 202 (hw := wd_1177) (kk := fun v14 => ?_)
    exact am_W.drop [true, true, true, true, true, true, true, true, false, false, false] (b_Md_decide_j107 F x0 x1 x2 x3 x4 x5 x6 t13 v14 σ)
  · refine aw_aload_n 0 (kk := ?_)
    refine aw_gA 10 21 199 (hw := wd_1176) (kk := fun v29 => ?_)
    refine aw_goto 7 107 (kk := ?_)
    exact am_W.drop [true, true, true, true, true, true, true, true, false, false, false] (b_Md_decide_j107 F x0 x1 x2 x3 x4 x5 x6 t13 v29 σ)
def f_Md_decide_j80 (F : Nat) (x0 : Nat) (x1 : Int32) (x2 : Int32) (x3 : Int32) (x4 : Int32) (x5 : Int32) (x6 : Int32)  (σ : am_S) : Option ((Nat ⊕ Unit) × am_S) :=
  if 0 ≤ x3 then
    f_Md_decide_j89 F x0 x1 x2 x3 x4 x5 x6 0 σ
  else
    f_Md_decide_j89 F x0 x1 x2 x3 x4 x5 x6 1 σ
theorem b_Md_decide_j80 {g : am_G} {σ0 : am_S} (F : Nat) (x0 : Nat) (x1 : Int32) (x2 : Int32) (x3 : Int32) (x4 : Int32) (x5 : Int32) (x6 : Int32)   (σ : am_S) : am_W g mx_Md_decide σ0 80 [some (.ref x0), some (.int x1), some (.int x2), some (.int x3), some (.int x4), some (.int x5), some (.int x6), none, none, none, none] [] σ (f_Md_decide_j80 F x0 x1 x2 x3 x4 x5 x6 σ) am_kTV := by
  unfold f_Md_decide_j80
  refine aw_iload_n 3 (kk := ?_)
  refine aw_if_ge 7 88 (kt := fun _ => ?_) (kf := fun _ => ?_)
  · refine aw_iconst 0 (v := 0) (kk := ?_)
    exact am_W.drop [true, true, true, true, true, true, true, false, false, false, false] (b_Md_decide_j89 F x0 x1 x2 x3 x4 x5 x6 0 σ)
  · refine aw_iconst 1 (v := 1) (kk := ?_)
    refine aw_goto 4 89 (kk := ?_)
    exact am_W.drop [true, true, true, true, true, true, true, false, false, false, false] (b_Md_decide_j89 F x0 x1 x2 x3 x4 x5 x6 1 σ)
def f_Md_decide_j376 (F : Nat) (x1 : Int32) (x2 : Int32) (x3 : Int32) (x7 : Int32) (x9 : Int32) (t36 : Nat) (t37 : Nat) (t38 : Int32)  (σ : am_S) : Option ((Nat ⊕ Unit) × am_S) :=
  am_bt (f_Md_outcomea F σ t36 t37 t38 x9 x7 x1 x2 x3) (fun a39 σ40 => some (.inl a39, σ40)) fun _ σ42 =>
  some (.inr (), σ42)
theorem b_Md_decide_j376 {g : am_G} {σ0 : am_S} (F : Nat) (x1 : Int32) (x2 : Int32) (x3 : Int32) (x7 : Int32) (x9 : Int32) (t36 : Nat) (t37 : Nat) (t38 : Int32)   (σ : am_S) : am_W g mx_Md_decide σ0 376 [none, some (.int x1), some (.int x2), some (.int x3), none, none, none, some (.int x7), none, some (.int x9), none] [.int t38, .ref t37, .ref t36] σ (f_Md_decide_j376 F x1 x2 x3 x7 x9 t36 t37 t38 σ) am_kTV := by
  unfold f_Md_decide_j376
  refine aw_iload 9 (kk := ?_)
  refine aw_iload 7 (kk := ?_)
  refine aw_iload_n 1 (kk := ?_)
  refine aw_iload_n 2 (kk := ?_)
  refine aw_iload_n 3 (kk := ?_)
  refine ac_TV (st := []) [.ref t36, .ref t37, .int t38, .int x9, .int x7, .int x1, .int x2, .int x3] (ag_V 209 10 rc_Md_outcomea wd_1463 cal_Md_outcomea wd_1465 ws_57) cal_Md_outcomea ⟨by decide, by decide⟩ (Nat.le_of_ble_eq_true rfl) (m_Md_outcomea g F σ t36 t37 t38 x9 x7 x1 x2 x3) (fun a39 σ40 => ?_) (fun σ42 => ?_)
  · exact at_outV
  exact aw_vretT
def f_Md_decide_j366 (F : Nat) (x1 : Int32) (x2 : Int32) (x3 : Int32) (x7 : Int32) (x8 : Int32) (x9 : Int32) (t34 : Nat) (t35 : Nat)  (σ : am_S) : Option ((Nat ⊕ Unit) × am_S) :=
  if x8 = 0 then
    f_Md_decide_j376 F x1 x2 x3 x7 x9 t34 t35 x2 σ
  else
    f_Md_decide_j376 F x1 x2 x3 x7 x9 t34 t35 x3 σ
theorem b_Md_decide_j366 {g : am_G} {σ0 : am_S} (F : Nat) (x1 : Int32) (x2 : Int32) (x3 : Int32) (x7 : Int32) (x8 : Int32) (x9 : Int32) (t34 : Nat) (t35 : Nat)   (σ : am_S) : am_W g mx_Md_decide σ0 366 [none, some (.int x1), some (.int x2), some (.int x3), none, none, none, some (.int x7), some (.int x8), some (.int x9), none] [.ref t35, .ref t34] σ (f_Md_decide_j366 F x1 x2 x3 x7 x8 x9 t34 t35 σ) am_kTV := by
  unfold f_Md_decide_j366
  refine aw_iload 8 (kk := ?_)
  refine aw_if_eq 7 375 (kt := fun _ => ?_) (kf := fun _ => ?_)
  · refine aw_iload_n 2 (kk := ?_)
    exact am_W.drop [false, true, true, true, false, false, false, true, false, true, false] (b_Md_decide_j376 F x1 x2 x3 x7 x9 t34 t35 x2 σ)
  · refine aw_iload_n 3 (kk := ?_)
    refine aw_goto 4 376 (kk := ?_)
    exact am_W.drop [false, true, true, true, false, false, false, true, false, true, false] (b_Md_decide_j376 F x1 x2 x3 x7 x9 t34 t35 x3 σ)
def f_Md_decide_j349 (F : Nat) (x0 : Nat) (x1 : Int32) (x2 : Int32) (x3 : Int32) (x7 : Int32) (x8 : Int32) (x9 : Int32)  (σ : am_S) : Option ((Nat ⊕ Unit) × am_S) :=
  if x8 = 0 then
    (am_gA σ 10 21 x0).bind fun v33 =>
    f_Md_decide_j366 F x1 x2 x3 x7 x8 x9 x0 v33 σ
  else
    (am_gA σ 10 22 x0).bind fun v43 =>
    f_Md_decide_j366 F x1 x2 x3 x7 x8 x9 x0 v43 σ
theorem b_Md_decide_j349 {g : am_G} {σ0 : am_S} (F : Nat) (x0 : Nat) (x1 : Int32) (x2 : Int32) (x3 : Int32) (x7 : Int32) (x8 : Int32) (x9 : Int32)   (σ : am_S) : am_W g mx_Md_decide σ0 349 [some (.ref x0), some (.int x1), some (.int x2), some (.int x3), none, none, none, some (.int x7), some (.int x8), some (.int x9), none] [] σ (f_Md_decide_j349 F x0 x1 x2 x3 x7 x8 x9 σ) am_kTV := by
  unfold f_Md_decide_j349
  refine aw_aload_n 0 (kk := ?_)
  refine aw_iload 8 (kk := ?_)
  refine aw_if_eq 10 362 (kt := fun _ => ?_) (kf := fun _ => ?_)
  · refine aw_aload_n 0 (kk := ?_)
    refine aw_gA 10 21 199 (hw := wd_1176) (kk := fun v33 => ?_)
    exact am_W.drop [false, true, true, true, false, false, false, true, true, true, false] (b_Md_decide_j366 F x1 x2 x3 x7 x8 x9 x0 v33 σ)
  · refine aw_aload_n 0 (kk := ?_)
    refine aw_gA 10 22 202 (hw := wd_1177) (kk := fun v43 => ?_)
    refine aw_goto 7 366 (kk := ?_)
    exact am_W.drop [false, true, true, true, false, false, false, true, true, true, false] (b_Md_decide_j366 F x1 x2 x3 x7 x8 x9 x0 v43 σ)
def f_Md_decide_j256 (F : Nat) (x0 : Nat) (x1 : Int32) (x2 : Int32) (x3 : Int32) (x4 : Int32) (x5 : Int32) (x6 : Int32) (x7 : Int32) (x8 : Int32)  (σ : am_S) : Option ((Nat ⊕ Unit) × am_S) :=
  if x5 = x6 then
    f_Md_decide_j349 F x0 x1 x2 x3 x7 x8 x5 σ
  else
    if x6 = x4 then
      f_Md_decide_j349 F x0 x1 x2 x3 x7 x8 x5 σ
    else
      if x5 = x4 then
        f_Md_decide_j349 F x0 x1 x2 x3 x7 x8 x6 σ
      else
        (am_gA σ 10 8 x0).bind fun v44 =>
        (am_lA σ 12 v44 0).bind fun v45 =>
        (f_Md_blobText F σ x0 x4 v45).bind fun σ46 =>
        (am_gA σ46 10 8 x0).bind fun v47 =>
        (am_lA σ46 12 v47 1).bind fun v48 =>
        (f_Md_blobText F σ46 x0 x5 v48).bind fun σ49 =>
        (am_gA σ49 10 8 x0).bind fun v50 =>
        (am_lA σ49 12 v50 2).bind fun v51 =>
        (f_Md_blobText F σ49 x0 x6 v51).bind fun σ52 =>
        (am_gA σ52 10 31 x0).bind fun v53 =>
        am_b2 (f_Md_merged F σ52 x0 v53) fun v54 σ55 =>
        (am_gA σ55 10 31 x0).bind fun v56 =>
        am_bt (f_Md_freshBlob F σ55 x0 v56 (x7 ||| v54)) (fun a57 σ58 => some (.inl a57, σ58)) fun v59 σ60 =>
        f_Md_decide_j349 F x0 x1 x2 x3 (x7 ||| v54) x8 v59 σ60
theorem b_Md_decide_j256 {g : am_G} {σ0 : am_S} (F : Nat) (x0 : Nat) (x1 : Int32) (x2 : Int32) (x3 : Int32) (x4 : Int32) (x5 : Int32) (x6 : Int32) (x7 : Int32) (x8 : Int32)   (σ : am_S) : am_W g mx_Md_decide σ0 256 [some (.ref x0), some (.int x1), some (.int x2), some (.int x3), some (.int x4), some (.int x5), some (.int x6), some (.int x7), some (.int x8), none, none] [] σ (f_Md_decide_j256 F x0 x1 x2 x3 x4 x5 x6 x7 x8 σ) am_kTV := by
  unfold f_Md_decide_j256
  refine aw_iload 5 (kk := ?_)
  refine aw_istore 9 (kk := ?_)
  refine aw_iload 5 (kk := ?_)
  refine aw_iload 6 (kk := ?_)
  refine aw_icmp_eq 85 349 (kt := fun _ => ?_) (kf := fun _ => ?_)
  · exact am_W.drop [true, true, true, true, false, false, false, true, true, true, false] (b_Md_decide_j349 F x0 x1 x2 x3 x7 x8 x5 σ)
  · refine aw_iload 6 (kk := ?_)
    refine aw_iload 4 (kk := ?_)
    refine aw_icmp_eq 78 349 (kt := fun _ => ?_) (kf := fun _ => ?_)
    · exact am_W.drop [true, true, true, true, false, false, false, true, true, true, false] (b_Md_decide_j349 F x0 x1 x2 x3 x7 x8 x5 σ)
    · refine aw_iload 5 (kk := ?_)
      refine aw_iload 4 (kk := ?_)
      refine aw_icmp_ne 10 288 (kt := fun _ => ?_) (kf := fun _ => ?_)
      · refine aw_aload_n 0 (kk := ?_)
        refine aw_iload 4 (kk := ?_)
        refine aw_aload_n 0 (kk := ?_)
        refine aw_gA 10 8 32 (hw := wd_1163) (kk := fun v44 => ?_)
        refine aw_iconst 0 (v := 0) (kk := ?_)
        refine aw_lA 12 (kk := fun v45 => ?_)
        refine ac_V (st := []) [.ref x0, .int x4, .ref v45] (ag_V 116 10 rc_Md_blobText wd_1430 cal_Md_blobText wd_1432 ws_50) cal_Md_blobText ⟨by decide, by decide⟩ (Nat.le_of_ble_eq_true rfl) (m_Md_blobText g F σ x0 x4 v45) (fun σ46 => ?_)
        refine aw_aload_n 0 (kk := ?_)
        refine aw_iload 5 (kk := ?_)
        refine aw_aload_n 0 (kk := ?_)
        refine aw_gA 10 8 32 (hw := wd_1163) (kk := fun v47 => ?_)
        refine aw_iconst 1 (v := 1) (kk := ?_)
        refine aw_lA 12 (kk := fun v48 => ?_)
        refine ac_V (st := []) [.ref x0, .int x5, .ref v48] (ag_V 116 10 rc_Md_blobText wd_1430 cal_Md_blobText wd_1432 ws_50) cal_Md_blobText ⟨by decide, by decide⟩ (Nat.le_of_ble_eq_true rfl) (m_Md_blobText g F σ46 x0 x5 v48) (fun σ49 => ?_)
        refine aw_aload_n 0 (kk := ?_)
        refine aw_iload 6 (kk := ?_)
        refine aw_aload_n 0 (kk := ?_)
        refine aw_gA 10 8 32 (hw := wd_1163) (kk := fun v50 => ?_)
        refine aw_iconst 2 (v := 2) (kk := ?_)
        refine aw_lA 12 (kk := fun v51 => ?_)
        refine ac_V (st := []) [.ref x0, .int x6, .ref v51] (ag_V 116 10 rc_Md_blobText wd_1430 cal_Md_blobText wd_1432 ws_50) cal_Md_blobText ⟨by decide, by decide⟩ (Nat.le_of_ble_eq_true rfl) (m_Md_blobText g F σ49 x0 x6 v51) (fun σ52 => ?_)
        refine aw_iload 7 (kk := ?_)
        refine aw_aload_n 0 (kk := ?_)
        refine aw_aload_n 0 (kk := ?_)
        refine aw_gA 10 31 212 (hw := wd_1186) (kk := fun v53 => ?_)
        refine ac_I (st := [.int x7]) [.ref x0, .ref v53] (ag_V 215 10 rc_Md_merged wd_1472 cal_Md_merged wd_1474 ws_58) cal_Md_merged ⟨by decide, by decide⟩ (Nat.le_of_ble_eq_true rfl) (m_Md_merged g F σ52 x0 v53) (fun v54 σ55 => ?_)
        refine aw_ior (kk := ?_)
        refine aw_istore 7 (kk := ?_)
        refine aw_aload_n 0 (kk := ?_)
        refine aw_aload_n 0 (kk := ?_)
        refine aw_gA 10 31 212 (hw := wd_1186) (kk := fun v56 => ?_)
        refine aw_iload 7 (kk := ?_)
        refine ac_TI (st := []) [.ref x0, .ref v56, .int (x7 ||| v54)] (ag_V 219 10 rc_Md_freshBlob wd_1503 cal_Md_freshBlob wd_1505 ws_63) cal_Md_freshBlob ⟨by decide, by decide⟩ (Nat.le_of_ble_eq_true rfl) (m_Md_freshBlob g F σ55 x0 v56 (x7 ||| v54)) (fun a57 σ58 => ?_) (fun v59 σ60 => ?_)
        · exact at_outV
        refine aw_istore 9 (kk := ?_)
        exact am_W.drop [true, true, true, true, false, false, false, true, true, true, false] (b_Md_decide_j349 F x0 x1 x2 x3 (x7 ||| v54) x8 v59 σ60)
      · refine aw_iload 6 (kk := ?_)
        refine aw_istore 9 (kk := ?_)
        refine aw_goto 64 349 (kk := ?_)
        exact am_W.drop [true, true, true, true, false, false, false, true, true, true, false] (b_Md_decide_j349 F x0 x1 x2 x3 x7 x8 x6 σ)
def f_Md_decide_j253 (F : Nat) (x0 : Nat) (x1 : Int32) (x2 : Int32) (x3 : Int32) (x4 : Int32) (x5 : Int32) (x6 : Int32) (x8 : Int32)  (σ : am_S) : Option ((Nat ⊕ Unit) × am_S) :=
  f_Md_decide_j256 F x0 x1 x2 x3 x4 x5 x6 1 x8 σ
theorem b_Md_decide_j253 {g : am_G} {σ0 : am_S} (F : Nat) (x0 : Nat) (x1 : Int32) (x2 : Int32) (x3 : Int32) (x4 : Int32) (x5 : Int32) (x6 : Int32) (x8 : Int32)   (σ : am_S) : am_W g mx_Md_decide σ0 253 [some (.ref x0), some (.int x1), some (.int x2), some (.int x3), some (.int x4), some (.int x5), some (.int x6), none, some (.int x8), none, none] [] σ (f_Md_decide_j253 F x0 x1 x2 x3 x4 x5 x6 x8 σ) am_kTV := by
  unfold f_Md_decide_j253
  refine aw_iconst 1 (v := 1) (kk := ?_)
  refine aw_istore 7 (kk := ?_)
  exact am_W.drop [true, true, true, true, true, true, true, true, true, false, false] (b_Md_decide_j256 F x0 x1 x2 x3 x4 x5 x6 1 x8 σ)
def f_Md_decide_j233 (F : Nat) (x0 : Nat) (x1 : Int32) (x2 : Int32) (x3 : Int32) (x4 : Int32) (x5 : Int32) (x6 : Int32) (x7 : Int32) (x8 : Int32)  (σ : am_S) : Option ((Nat ⊕ Unit) × am_S) :=
  if x1 < 0 then
    f_Md_decide_j253 F x0 x1 x2 x3 x4 x5 x6 x8 σ
  else
    (am_gA σ 10 22 x0).bind fun v61 =>
    (am_gA σ 10 20 x0).bind fun v62 =>
    (f_Ps_comparea F σ v61 x3 v62 x1).bind fun v63 =>
    if v63 = 0 then
      f_Md_decide_j256 F x0 x1 x2 x3 x4 x5 x6 x7 x8 σ
    else
      f_Md_decide_j253 F x0 x1 x2 x3 x4 x5 x6 x8 σ
theorem b_Md_decide_j233 {g : am_G} {σ0 : am_S} (F : Nat) (x0 : Nat) (x1 : Int32) (x2 : Int32) (x3 : Int32) (x4 : Int32) (x5 : Int32) (x6 : Int32) (x7 : Int32) (x8 : Int32)   (σ : am_S) : am_W g mx_Md_decide σ0 233 [some (.ref x0), some (.int x1), some (.int x2), some (.int x3), some (.int x4), some (.int x5), some (.int x6), some (.int x7), some (.int x8), none, none] [] σ (f_Md_decide_j233 F x0 x1 x2 x3 x4 x5 x6 x7 x8 σ) am_kTV := by
  unfold f_Md_decide_j233
  refine aw_iload_n 1 (kk := ?_)
  refine aw_if_lt 19 253 (kt := fun _ => ?_) (kf := fun _ => ?_)
  · exact am_W.drop [true, true, true, true, true, true, true, false, true, false, false] (b_Md_decide_j253 F x0 x1 x2 x3 x4 x5 x6 x8 σ)
  · refine aw_aload_n 0 (kk := ?_)
    refine aw_gA 10 22 202 (hw := wd_1177) (kk := fun v61 => ?_)
    refine aw_iload_n 3 (kk := ?_)
    refine aw_aload_n 0 (kk := ?_)
    refine aw_gA 10 20 196 (hw := wd_1175) (kk := fun v62 => ?_)
    refine aw_iload_n 1 (kk := ?_)
    refine ac_PI (st := []) [.ref v61, .int x3, .ref v62, .int x1] (ag_V 205 11 rc_Ps_comparea wd_1462 cal_Ps_comparea wd_1423 wd_1424) cal_Ps_comparea ⟨by decide, by decide⟩ (Nat.le_of_ble_eq_true rfl) (m_Ps_comparea g F σ v61 x3 v62 x1) (fun v63 => ?_)
    refine aw_if_eq 6 256 (kt := fun _ => ?_) (kf := fun _ => ?_)
    · exact am_W.drop [true, true, true, true, true, true, true, true, true, false, false] (b_Md_decide_j256 F x0 x1 x2 x3 x4 x5 x6 x7 x8 σ)
    · exact am_W.drop [true, true, true, true, true, true, true, false, true, false, false] (b_Md_decide_j253 F x0 x1 x2 x3 x4 x5 x6 x8 σ)
def f_Md_decide_j70 (F : Nat) (x0 : Nat) (x1 : Int32) (x2 : Int32) (x3 : Int32) (x4 : Int32) (x5 : Int32) (t12 : Int32)  (σ : am_S) : Option ((Nat ⊕ Unit) × am_S) :=
  if x2 < 0 then
    f_Md_decide_j80 F x0 x1 x2 x3 x4 x5 t12 σ
  else
    if 0 ≤ x3 then
      (am_gA σ 10 21 x0).bind fun v30 =>
      (am_gA σ 10 22 x0).bind fun v31 =>
      (f_Ps_comparea F σ v30 x2 v31 x3).bind fun v32 =>
      if v32 = 0 then
        f_Md_decide_j256 F x0 x1 x2 x3 x4 x5 t12 0 0 σ
      else
        if x1 < 0 then
          f_Md_decide_j233 F x0 x1 x2 x3 x4 x5 t12 0 0 σ
        else
          (am_gA σ 10 21 x0).bind fun v64 =>
          (am_gA σ 10 20 x0).bind fun v65 =>
          (f_Ps_comparea F σ v64 x2 v65 x1).bind fun v66 =>
          if v66 = 0 then
            f_Md_decide_j256 F x0 x1 x2 x3 x4 x5 t12 0 1 σ
          else
            f_Md_decide_j233 F x0 x1 x2 x3 x4 x5 t12 0 0 σ
    else
      f_Md_decide_j80 F x0 x1 x2 x3 x4 x5 t12 σ
theorem b_Md_decide_j70 {g : am_G} {σ0 : am_S} (F : Nat) (x0 : Nat) (x1 : Int32) (x2 : Int32) (x3 : Int32) (x4 : Int32) (x5 : Int32) (t12 : Int32)   (σ : am_S) : am_W g mx_Md_decide σ0 70 [some (.ref x0), some (.int x1), some (.int x2), some (.int x3), some (.int x4), some (.int x5), none, none, none, none, none] [.int t12] σ (f_Md_decide_j70 F x0 x1 x2 x3 x4 x5 t12 σ) am_kTV := by
  unfold f_Md_decide_j70
  refine aw_istore 6 (kk := ?_)
  refine aw_iload_n 2 (kk := ?_)
  refine aw_if_lt 7 80 (kt := fun _ => ?_) (kf := fun _ => ?_)
  · exact am_W.drop [true, true, true, true, true, true, true, false, false, false, false] (b_Md_decide_j80 F x0 x1 x2 x3 x4 x5 t12 σ)
  · refine aw_iload_n 3 (kk := ?_)
    refine aw_if_ge 108 185 (kt := fun _ => ?_) (kf := fun _ => ?_)
    · refine aw_iconst 0 (v := 0) (kk := ?_)
      refine aw_istore 7 (kk := ?_)
      refine aw_iconst 0 (v := 0) (kk := ?_)
      refine aw_istore 8 (kk := ?_)
      refine aw_aload_n 0 (kk := ?_)
      refine aw_gA 10 21 199 (hw := wd_1176) (kk := fun v30 => ?_)
      refine aw_iload_n 2 (kk := ?_)
      refine aw_aload_n 0 (kk := ?_)
      refine aw_gA 10 22 202 (hw := wd_1177) (kk := fun v31 => ?_)
      refine aw_iload_n 3 (kk := ?_)
      refine ac_PI (st := []) [.ref v30, .int x2, .ref v31, .int x3] (ag_V 205 11 rc_Ps_comparea wd_1462 cal_Ps_comparea wd_1423 wd_1424) cal_Ps_comparea ⟨by decide, by decide⟩ (Nat.le_of_ble_eq_true rfl) (m_Ps_comparea g F σ v30 x2 v31 x3) (fun v32 => ?_)
      refine aw_if_eq 52 256 (kt := fun _ => ?_) (kf := fun _ => ?_)
      · exact am_W.drop [true, true, true, true, true, true, true, true, true, false, false] (b_Md_decide_j256 F x0 x1 x2 x3 x4 x5 t12 0 0 σ)
      · refine aw_iload_n 1 (kk := ?_)
        refine aw_if_lt 25 233 (kt := fun _ => ?_) (kf := fun _ => ?_)
        · exact am_W.drop [true, true, true, true, true, true, true, true, true, false, false] (b_Md_decide_j233 F x0 x1 x2 x3 x4 x5 t12 0 0 σ)
        · refine aw_aload_n 0 (kk := ?_)
          refine aw_gA 10 21 199 (hw := wd_1176) (kk := fun v64 => ?_)
          refine aw_iload_n 2 (kk := ?_)
          refine aw_aload_n 0 (kk := ?_)
          refine aw_gA 10 20 196 (hw := wd_1175) (kk := fun v65 => ?_)
          refine aw_iload_n 1 (kk := ?_)
          refine ac_PI (st := []) [.ref v64, .int x2, .ref v65, .int x1] (ag_V 205 11 rc_Ps_comparea wd_1462 cal_Ps_comparea wd_1423 wd_1424) cal_Ps_comparea ⟨by decide, by decide⟩ (Nat.le_of_ble_eq_true rfl) (m_Ps_comparea g F σ v64 x2 v65 x1) (fun v66 => ?_)
          refine aw_if_ne 9 233 (kt := fun _ => ?_) (kf := fun _ => ?_)
          · exact am_W.drop [true, true, true, true, true, true, true, true, true, false, false] (b_Md_decide_j233 F x0 x1 x2 x3 x4 x5 t12 0 0 σ)
          · refine aw_iconst 1 (v := 1) (kk := ?_)
            refine aw_istore 8 (kk := ?_)
            refine aw_goto 26 256 (kk := ?_)
            exact am_W.drop [true, true, true, true, true, true, true, true, true, false, false] (b_Md_decide_j256 F x0 x1 x2 x3 x4 x5 t12 0 1 σ)
    · exact am_W.drop [true, true, true, true, true, true, true, false, false, false, false] (b_Md_decide_j80 F x0 x1 x2 x3 x4 x5 t12 σ)
def f_Md_decide_j49 (F : Nat) (x0 : Nat) (x1 : Int32) (x2 : Int32) (x3 : Int32) (x4 : Int32) (t8 : Int32)  (σ : am_S) : Option ((Nat ⊕ Unit) × am_S) :=
  if 0 ≤ x3 then
    (am_gA σ 10 22 x0).bind fun v9 =>
    (am_gA σ 11 2 v9).bind fun v10 =>
    (am_lI σ .int v10 (3 * x3)).bind fun v11 =>
    f_Md_decide_j70 F x0 x1 x2 x3 x4 t8 v11 σ
  else
    f_Md_decide_j70 F x0 x1 x2 x3 x4 t8 (-1) σ
theorem b_Md_decide_j49 {g : am_G} {σ0 : am_S} (F : Nat) (x0 : Nat) (x1 : Int32) (x2 : Int32) (x3 : Int32) (x4 : Int32) (t8 : Int32)   (σ : am_S) : am_W g mx_Md_decide σ0 49 [some (.ref x0), some (.int x1), some (.int x2), some (.int x3), some (.int x4), none, none, none, none, none, none] [.int t8] σ (f_Md_decide_j49 F x0 x1 x2 x3 x4 t8 σ) am_kTV := by
  unfold f_Md_decide_j49
  refine aw_istore 5 (kk := ?_)
  refine aw_iload_n 3 (kk := ?_)
  refine aw_if_ge 7 59 (kt := fun _ => ?_) (kf := fun _ => ?_)
  · refine aw_aload_n 0 (kk := ?_)
    refine aw_gA 10 22 202 (hw := wd_1177) (kk := fun v9 => ?_)
    refine aw_gA 11 2 142 (hw := wd_1128) (kk := fun v10 => ?_)
    refine aw_iconst 3 (v := 3) (kk := ?_)
    refine aw_iload_n 3 (kk := ?_)
    refine aw_imul (kk := ?_)
    refine aw_lI (kk := fun v11 => ?_)
    exact am_W.drop [true, true, true, true, true, true, false, false, false, false, false] (b_Md_decide_j70 F x0 x1 x2 x3 x4 t8 v11 σ)
  · refine aw_iconst (-1) (v := (-1)) (kk := ?_)
    refine aw_goto 14 70 (kk := ?_)
    exact am_W.drop [true, true, true, true, true, true, false, false, false, false, false] (b_Md_decide_j70 F x0 x1 x2 x3 x4 t8 (-1) σ)
def f_Md_decide_j28 (F : Nat) (x0 : Nat) (x1 : Int32) (x2 : Int32) (x3 : Int32) (t4 : Int32)  (σ : am_S) : Option ((Nat ⊕ Unit) × am_S) :=
  if 0 ≤ x2 then
    (am_gA σ 10 21 x0).bind fun v5 =>
    (am_gA σ 11 2 v5).bind fun v6 =>
    (am_lI σ .int v6 (3 * x2)).bind fun v7 =>
    f_Md_decide_j49 F x0 x1 x2 x3 t4 v7 σ
  else
    f_Md_decide_j49 F x0 x1 x2 x3 t4 (-1) σ
theorem b_Md_decide_j28 {g : am_G} {σ0 : am_S} (F : Nat) (x0 : Nat) (x1 : Int32) (x2 : Int32) (x3 : Int32) (t4 : Int32)   (σ : am_S) : am_W g mx_Md_decide σ0 28 [some (.ref x0), some (.int x1), some (.int x2), some (.int x3), none, none, none, none, none, none, none] [.int t4] σ (f_Md_decide_j28 F x0 x1 x2 x3 t4 σ) am_kTV := by
  unfold f_Md_decide_j28
  refine aw_istore 4 (kk := ?_)
  refine aw_iload_n 2 (kk := ?_)
  refine aw_if_ge 7 38 (kt := fun _ => ?_) (kf := fun _ => ?_)
  · refine aw_aload_n 0 (kk := ?_)
    refine aw_gA 10 21 199 (hw := wd_1176) (kk := fun v5 => ?_)
    refine aw_gA 11 2 142 (hw := wd_1128) (kk := fun v6 => ?_)
    refine aw_iconst 3 (v := 3) (kk := ?_)
    refine aw_iload_n 2 (kk := ?_)
    refine aw_imul (kk := ?_)
    refine aw_lI (kk := fun v7 => ?_)
    exact am_W.drop [true, true, true, true, true, false, false, false, false, false, false] (b_Md_decide_j49 F x0 x1 x2 x3 t4 v7 σ)
  · refine aw_iconst (-1) (v := (-1)) (kk := ?_)
    refine aw_goto 14 49 (kk := ?_)
    exact am_W.drop [true, true, true, true, true, false, false, false, false, false, false] (b_Md_decide_j49 F x0 x1 x2 x3 t4 (-1) σ)
def f_Md_decide_j9 (F : Nat) (x0 : Nat) (x1 : Int32) (x2 : Int32) (x3 : Int32)  (σ : am_S) : Option ((Nat ⊕ Unit) × am_S) :=
  if 0 ≤ x1 then
    (am_gA σ 10 20 x0).bind fun v1 =>
    (am_gA σ 11 2 v1).bind fun v2 =>
    (am_lI σ .int v2 (3 * x1)).bind fun v3 =>
    f_Md_decide_j28 F x0 x1 x2 x3 v3 σ
  else
    f_Md_decide_j28 F x0 x1 x2 x3 (-1) σ
theorem b_Md_decide_j9 {g : am_G} {σ0 : am_S} (F : Nat) (x0 : Nat) (x1 : Int32) (x2 : Int32) (x3 : Int32)   (σ : am_S) : am_W g mx_Md_decide σ0 9 [some (.ref x0), some (.int x1), some (.int x2), some (.int x3), none, none, none, none, none, none, none] [] σ (f_Md_decide_j9 F x0 x1 x2 x3 σ) am_kTV := by
  unfold f_Md_decide_j9
  refine aw_iload_n 1 (kk := ?_)
  refine aw_if_ge 7 17 (kt := fun _ => ?_) (kf := fun _ => ?_)
  · refine aw_aload_n 0 (kk := ?_)
    refine aw_gA 10 20 196 (hw := wd_1175) (kk := fun v1 => ?_)
    refine aw_gA 11 2 142 (hw := wd_1128) (kk := fun v2 => ?_)
    refine aw_iconst 3 (v := 3) (kk := ?_)
    refine aw_iload_n 1 (kk := ?_)
    refine aw_imul (kk := ?_)
    refine aw_lI (kk := fun v3 => ?_)
    exact am_W.drop [true, true, true, true, false, false, false, false, false, false, false] (b_Md_decide_j28 F x0 x1 x2 x3 v3 σ)
  · refine aw_iconst (-1) (v := (-1)) (kk := ?_)
    refine aw_goto 14 28 (kk := ?_)
    exact am_W.drop [true, true, true, true, false, false, false, false, false, false, false] (b_Md_decide_j28 F x0 x1 x2 x3 (-1) σ)
def f_Md_decide (F : Nat) (σ : am_S) (x0 : Nat) (x1 : Int32) (x2 : Int32) (x3 : Int32) : Option ((Nat ⊕ Unit) × am_S) :=
  am_ck σ 10 x0 (
  if 0 ≤ x2 then
    f_Md_decide_j9 F x0 x1 x2 x3 σ
  else
    if 0 ≤ x3 then
      f_Md_decide_j9 F x0 x1 x2 x3 σ
    else
      some (.inr (), σ))
theorem rc_Md_decide {F : Nat} {σ : am_S} {x0 : Nat} {x1 : Int32} {x2 : Int32} {x3 : Int32} (h : (f_Md_decide F σ x0 x1 x2 x3).isSome = true) : ∃ fs, σ.2.2 x0 = some (.inr (10, fs)) := am_ck_some h
theorem m_Md_decide (g : am_G) (F : Nat) (σ : am_S) (x0 : Nat) (x1 : Int32) (x2 : Int32) (x3 : Int32) : am_Met g mx_Md_decide [.ref x0, .int x1, .int x2, .int x3] σ ((f_Md_decide F σ x0 x1 x2 x3).bind am_kTV) := by
  refine am_Met.of (lv := [some (.ref x0), some (.int x1), some (.int x2), some (.int x3), none, none, none, none, none, none, none]) (am_cc rfl (am_cc rfl (am_cc rfl (am_cc rfl am_c0)))) (Nat.le_of_ble_eq_true rfl) rfl (by decide) ?_
  unfold f_Md_decide
  refine am_W.ck ?_
  refine aw_iload_n 2 (kk := ?_)
  refine aw_if_ge 8 9 (kt := fun _ => ?_) (kf := fun _ => ?_)
  · exact am_W.drop [true, true, true, true, false, false, false, false, false, false, false] (b_Md_decide_j9 F x0 x1 x2 x3 σ)
  · refine aw_iload_n 3 (kk := ?_)
    refine aw_if_ge 4 9 (kt := fun _ => ?_) (kf := fun _ => ?_)
    · exact am_W.drop [true, true, true, true, false, false, false, false, false, false, false] (b_Md_decide_j9 F x0 x1 x2 x3 σ)
    · exact aw_vretT
def f_Md_mergeMaps_l68 (F : Nat) (x0 : Nat) (k92 : am_S → Option ((Nat ⊕ Unit) × am_S)) : Nat → Int32 → am_S → Option ((Nat ⊕ Unit) × am_S)
  | 0, _, _ => none
  | n + 1, x1, σ =>
    (am_gA σ 10 21 x0).bind fun v18 =>
    (am_gI σ 11 4 v18).bind fun v19 =>
    if v19 ≤ x1 then
      k92 σ
    else
      (am_gA σ 10 28 x0).bind fun v20 =>
      (am_sZ σ v20 x1 0).bind fun σ21 =>
      f_Md_mergeMaps_l68 F x0 k92 n (x1 + 1) σ21
theorem b_Md_mergeMaps_l68 {g : am_G} {σ0 : am_S} (F : Nat) (x0 : Nat) (k92 : am_S → Option ((Nat ⊕ Unit) × am_S)) (h92 : ∀ (τ : am_S), am_W g mx_Md_mergeMaps σ0 92 [some (.ref x0), none, none, none] [] τ (k92 τ) am_kTV) : ∀ (n : Nat) (x1 : Int32) (σ : am_S), am_W g mx_Md_mergeMaps σ0 68 [some (.ref x0), some (.int x1), none, none] [] σ (f_Md_mergeMaps_l68 F x0 k92 n x1 σ) am_kTV := by
  intro n
  induction n with
  | zero =>
    intro x1 σ
    rw [f_Md_mergeMaps_l68]
    exact am_W.none
  | succ n ih =>
    intro x1 σ
    rw [f_Md_mergeMaps_l68]
    refine aw_iload_n 1 (kk := ?_)
    refine aw_aload_n 0 (kk := ?_)
    refine aw_gA 10 21 199 (hw := wd_1176) (kk := fun v18 => ?_)
    refine aw_gI 11 4 129 (hw := wd_1132) (kk := fun v19 => ?_)
    refine aw_icmp_ge 16 92 (kt := fun _ => ?_) (kf := fun _ => ?_)
    · exact am_W.drop [true, false, false, false] (h92 σ)
    · refine aw_aload_n 0 (kk := ?_)
      refine aw_gA 10 28 237 (hw := wd_1183) (kk := fun v20 => ?_)
      refine aw_iload_n 1 (kk := ?_)
      refine aw_iconst 0 (v := 0) (kk := ?_)
      refine aw_sZ (kk := fun σ21 => ?_)
      refine aw_iinc 1 1 (v := 1) (kk := ?_)
      refine aw_goto (-21) 68 (kk := ?_)
      exact am_W.drop [true, true, false, false] (ih (x1 + 1) σ21)
def f_Md_mergeMaps_l94 (F : Nat) (x0 : Nat) (k118 : am_S → Option ((Nat ⊕ Unit) × am_S)) : Nat → Int32 → am_S → Option ((Nat ⊕ Unit) × am_S)
  | 0, _, _ => none
  | n + 1, x1, σ =>
    (am_gA σ 10 22 x0).bind fun v22 =>
    (am_gI σ 11 4 v22).bind fun v23 =>
    if v23 ≤ x1 then
      k118 σ
    else
      (am_gA σ 10 29 x0).bind fun v24 =>
      (am_sZ σ v24 x1 0).bind fun σ25 =>
      f_Md_mergeMaps_l94 F x0 k118 n (x1 + 1) σ25
theorem b_Md_mergeMaps_l94 {g : am_G} {σ0 : am_S} (F : Nat) (x0 : Nat) (k118 : am_S → Option ((Nat ⊕ Unit) × am_S)) (h118 : ∀ (τ : am_S), am_W g mx_Md_mergeMaps σ0 118 [some (.ref x0), none, none, none] [] τ (k118 τ) am_kTV) : ∀ (n : Nat) (x1 : Int32) (σ : am_S), am_W g mx_Md_mergeMaps σ0 94 [some (.ref x0), some (.int x1), none, none] [] σ (f_Md_mergeMaps_l94 F x0 k118 n x1 σ) am_kTV := by
  intro n
  induction n with
  | zero =>
    intro x1 σ
    rw [f_Md_mergeMaps_l94]
    exact am_W.none
  | succ n ih =>
    intro x1 σ
    rw [f_Md_mergeMaps_l94]
    refine aw_iload_n 1 (kk := ?_)
    refine aw_aload_n 0 (kk := ?_)
    refine aw_gA 10 22 202 (hw := wd_1177) (kk := fun v22 => ?_)
    refine aw_gI 11 4 129 (hw := wd_1132) (kk := fun v23 => ?_)
    refine aw_icmp_ge 16 118 (kt := fun _ => ?_) (kf := fun _ => ?_)
    · exact am_W.drop [true, false, false, false] (h118 σ)
    · refine aw_aload_n 0 (kk := ?_)
      refine aw_gA 10 29 240 (hw := wd_1184) (kk := fun v24 => ?_)
      refine aw_iload_n 1 (kk := ?_)
      refine aw_iconst 0 (v := 0) (kk := ?_)
      refine aw_sZ (kk := fun σ25 => ?_)
      refine aw_iinc 1 1 (v := 1) (kk := ?_)
      refine aw_goto (-21) 94 (kk := ?_)
      exact am_W.drop [true, true, false, false] (ih (x1 + 1) σ25)
def f_Md_mergeMaps_j201 (F : Nat) (x0 : Nat) (x1 : Int32) (x2 : Int32) (x3 : Int32) (k120 : Int32 → am_S → Option ((Nat ⊕ Unit) × am_S)) (σ : am_S) : Option ((Nat ⊕ Unit) × am_S) :=
  am_bt (f_Md_decide F σ x0 x1 x2 x3) (fun a34 σ35 => some (.inl a34, σ35)) fun _ σ37 =>
  k120 (x1 + 1) σ37
theorem b_Md_mergeMaps_j201 {g : am_G} {σ0 : am_S} (F : Nat) (x0 : Nat) (x1 : Int32) (x2 : Int32) (x3 : Int32) (k120 : Int32 → am_S → Option ((Nat ⊕ Unit) × am_S)) (h120 : ∀ (y1 : Int32)  (τ : am_S), am_W g mx_Md_mergeMaps σ0 120 [some (.ref x0), some (.int y1), none, none] [] τ (k120 y1 τ) am_kTV) (σ : am_S) : am_W g mx_Md_mergeMaps σ0 201 [some (.ref x0), some (.int x1), some (.int x2), some (.int x3)] [] σ (f_Md_mergeMaps_j201 F x0 x1 x2 x3 k120 σ) am_kTV := by
  unfold f_Md_mergeMaps_j201
  refine aw_aload_n 0 (kk := ?_)
  refine aw_iload_n 1 (kk := ?_)
  refine aw_iload_n 2 (kk := ?_)
  refine aw_iload_n 3 (kk := ?_)
  refine ac_TV (st := []) [.ref x0, .int x1, .int x2, .int x3] (ag_V 243 10 rc_Md_decide wd_1458 cal_Md_decide wd_1460 ws_56) cal_Md_decide ⟨by decide, by decide⟩ (Nat.le_of_ble_eq_true rfl) (m_Md_decide g F σ x0 x1 x2 x3) (fun a34 σ35 => ?_) (fun σ37 => ?_)
  · exact at_outV
  refine aw_iinc 1 1 (v := 1) (kk := ?_)
  refine aw_goto (-91) 120 (kk := ?_)
  exact am_W.drop [true, true, false, false] (h120 (x1 + 1) σ37)
def f_Md_mergeMaps_j190 (F : Nat) (x0 : Nat) (x1 : Int32) (x2 : Int32) (x3 : Int32) (k120 : Int32 → am_S → Option ((Nat ⊕ Unit) × am_S)) (σ : am_S) : Option ((Nat ⊕ Unit) × am_S) :=
  if x3 < 0 then
    f_Md_mergeMaps_j201 F x0 x1 x2 x3 (fun y1 τ => k120 y1 τ) σ
  else
    (am_gA σ 10 29 x0).bind fun v38 =>
    (am_sZ σ v38 x3 1).bind fun σ39 =>
    f_Md_mergeMaps_j201 F x0 x1 x2 x3 (fun y1 τ => k120 y1 τ) σ39
theorem b_Md_mergeMaps_j190 {g : am_G} {σ0 : am_S} (F : Nat) (x0 : Nat) (x1 : Int32) (x2 : Int32) (x3 : Int32) (k120 : Int32 → am_S → Option ((Nat ⊕ Unit) × am_S)) (h120 : ∀ (y1 : Int32)  (τ : am_S), am_W g mx_Md_mergeMaps σ0 120 [some (.ref x0), some (.int y1), none, none] [] τ (k120 y1 τ) am_kTV) (σ : am_S) : am_W g mx_Md_mergeMaps σ0 190 [some (.ref x0), some (.int x1), some (.int x2), some (.int x3)] [] σ (f_Md_mergeMaps_j190 F x0 x1 x2 x3 k120 σ) am_kTV := by
  unfold f_Md_mergeMaps_j190
  refine aw_iload_n 3 (kk := ?_)
  refine aw_if_lt 10 201 (kt := fun _ => ?_) (kf := fun _ => ?_)
  · exact am_W.drop [true, true, true, true] (b_Md_mergeMaps_j201 F x0 x1 x2 x3 (fun y1 τ => k120 y1 τ) (fun y1 τ => am_W.drop [true, true, false, false] (h120 y1 τ)) σ)
  · refine aw_aload_n 0 (kk := ?_)
    refine aw_gA 10 29 240 (hw := wd_1184) (kk := fun v38 => ?_)
    refine aw_iload_n 3 (kk := ?_)
    refine aw_iconst 1 (v := 1) (kk := ?_)
    refine aw_sZ (kk := fun σ39 => ?_)
    exact am_W.drop [true, true, true, true] (b_Md_mergeMaps_j201 F x0 x1 x2 x3 (fun y1 τ => k120 y1 τ) (fun y1 τ => am_W.drop [true, true, false, false] (h120 y1 τ)) σ39)
def f_Md_mergeMaps_j179 (F : Nat) (x0 : Nat) (x1 : Int32) (x2 : Int32) (x3 : Int32) (k120 : Int32 → am_S → Option ((Nat ⊕ Unit) × am_S)) (σ : am_S) : Option ((Nat ⊕ Unit) × am_S) :=
  if x2 < 0 then
    f_Md_mergeMaps_j190 F x0 x1 x2 x3 (fun y1 τ => k120 y1 τ) σ
  else
    (am_gA σ 10 28 x0).bind fun v40 =>
    (am_sZ σ v40 x2 1).bind fun σ41 =>
    f_Md_mergeMaps_j190 F x0 x1 x2 x3 (fun y1 τ => k120 y1 τ) σ41
theorem b_Md_mergeMaps_j179 {g : am_G} {σ0 : am_S} (F : Nat) (x0 : Nat) (x1 : Int32) (x2 : Int32) (x3 : Int32) (k120 : Int32 → am_S → Option ((Nat ⊕ Unit) × am_S)) (h120 : ∀ (y1 : Int32)  (τ : am_S), am_W g mx_Md_mergeMaps σ0 120 [some (.ref x0), some (.int y1), none, none] [] τ (k120 y1 τ) am_kTV) (σ : am_S) : am_W g mx_Md_mergeMaps σ0 179 [some (.ref x0), some (.int x1), some (.int x2), some (.int x3)] [] σ (f_Md_mergeMaps_j179 F x0 x1 x2 x3 k120 σ) am_kTV := by
  unfold f_Md_mergeMaps_j179
  refine aw_iload_n 2 (kk := ?_)
  refine aw_if_lt 10 190 (kt := fun _ => ?_) (kf := fun _ => ?_)
  · exact am_W.drop [true, true, true, true] (b_Md_mergeMaps_j190 F x0 x1 x2 x3 (fun y1 τ => k120 y1 τ) (fun y1 τ => am_W.drop [true, true, false, false] (h120 y1 τ)) σ)
  · refine aw_aload_n 0 (kk := ?_)
    refine aw_gA 10 28 237 (hw := wd_1183) (kk := fun v40 => ?_)
    refine aw_iload_n 2 (kk := ?_)
    refine aw_iconst 1 (v := 1) (kk := ?_)
    refine aw_sZ (kk := fun σ41 => ?_)
    exact am_W.drop [true, true, true, true] (b_Md_mergeMaps_j190 F x0 x1 x2 x3 (fun y1 τ => k120 y1 τ) (fun y1 τ => am_W.drop [true, true, false, false] (h120 y1 τ)) σ41)
def f_Md_mergeMaps_j168 (F : Nat) (x0 : Nat) (x1 : Int32) (x2 : Int32) (x3 : Int32) (k120 : Int32 → am_S → Option ((Nat ⊕ Unit) × am_S)) (σ : am_S) : Option ((Nat ⊕ Unit) × am_S) :=
  if 0 ≤ x3 then
    f_Md_mergeMaps_j179 F x0 x1 x2 x3 (fun y1 τ => k120 y1 τ) σ
  else
    (am_gA σ 10 26 x0).bind fun v42 =>
    (am_lI σ .int v42 x1).bind fun v43 =>
    f_Md_mergeMaps_j179 F x0 x1 x2 v43 (fun y1 τ => k120 y1 τ) σ
theorem b_Md_mergeMaps_j168 {g : am_G} {σ0 : am_S} (F : Nat) (x0 : Nat) (x1 : Int32) (x2 : Int32) (x3 : Int32) (k120 : Int32 → am_S → Option ((Nat ⊕ Unit) × am_S)) (h120 : ∀ (y1 : Int32)  (τ : am_S), am_W g mx_Md_mergeMaps σ0 120 [some (.ref x0), some (.int y1), none, none] [] τ (k120 y1 τ) am_kTV) (σ : am_S) : am_W g mx_Md_mergeMaps σ0 168 [some (.ref x0), some (.int x1), some (.int x2), some (.int x3)] [] σ (f_Md_mergeMaps_j168 F x0 x1 x2 x3 k120 σ) am_kTV := by
  unfold f_Md_mergeMaps_j168
  refine aw_iload_n 3 (kk := ?_)
  refine aw_if_ge 10 179 (kt := fun _ => ?_) (kf := fun _ => ?_)
  · exact am_W.drop [true, true, true, true] (b_Md_mergeMaps_j179 F x0 x1 x2 x3 (fun y1 τ => k120 y1 τ) (fun y1 τ => am_W.drop [true, true, false, false] (h120 y1 τ)) σ)
  · refine aw_aload_n 0 (kk := ?_)
    refine aw_gA 10 26 234 (hw := wd_1181) (kk := fun v42 => ?_)
    refine aw_iload_n 1 (kk := ?_)
    refine aw_lI (kk := fun v43 => ?_)
    refine aw_istore_n 3 (kk := ?_)
    exact am_W.drop [true, true, true, true] (b_Md_mergeMaps_j179 F x0 x1 x2 v43 (fun y1 τ => k120 y1 τ) (fun y1 τ => am_W.drop [true, true, false, false] (h120 y1 τ)) σ)
def f_Md_mergeMaps_l120 (F : Nat) (x0 : Nat) (k214 : am_S → Option ((Nat ⊕ Unit) × am_S)) : Nat → Int32 → am_S → Option ((Nat ⊕ Unit) × am_S)
  | 0, _, _ => none
  | n + 1, x1, σ =>
    (am_gA σ 10 20 x0).bind fun v26 =>
    (am_gI σ 11 4 v26).bind fun v27 =>
    if v27 ≤ x1 then
      k214 σ
    else
      (am_gA σ 10 21 x0).bind fun v28 =>
      (am_gA σ 10 20 x0).bind fun v29 =>
      (f_Ps_findb F σ v28 v29 x1).bind fun v30 =>
      (am_gA σ 10 22 x0).bind fun v31 =>
      (am_gA σ 10 20 x0).bind fun v32 =>
      (f_Ps_findb F σ v31 v32 x1).bind fun v33 =>
      if 0 ≤ v30 then
        f_Md_mergeMaps_j168 F x0 x1 v30 v33 (fun y1 τ => f_Md_mergeMaps_l120 F x0 k214 n y1 τ) σ
      else
        (am_gA σ 10 25 x0).bind fun v44 =>
        (am_lI σ .int v44 x1).bind fun v45 =>
        f_Md_mergeMaps_j168 F x0 x1 v45 v33 (fun y1 τ => f_Md_mergeMaps_l120 F x0 k214 n y1 τ) σ
theorem b_Md_mergeMaps_l120 {g : am_G} {σ0 : am_S} (F : Nat) (x0 : Nat) (k214 : am_S → Option ((Nat ⊕ Unit) × am_S)) (h214 : ∀ (τ : am_S), am_W g mx_Md_mergeMaps σ0 214 [some (.ref x0), none, none, none] [] τ (k214 τ) am_kTV) : ∀ (n : Nat) (x1 : Int32) (σ : am_S), am_W g mx_Md_mergeMaps σ0 120 [some (.ref x0), some (.int x1), none, none] [] σ (f_Md_mergeMaps_l120 F x0 k214 n x1 σ) am_kTV := by
  intro n
  induction n with
  | zero =>
    intro x1 σ
    rw [f_Md_mergeMaps_l120]
    exact am_W.none
  | succ n ih =>
    intro x1 σ
    rw [f_Md_mergeMaps_l120]
    refine aw_iload_n 1 (kk := ?_)
    refine aw_aload_n 0 (kk := ?_)
    refine aw_gA 10 20 196 (hw := wd_1175) (kk := fun v26 => ?_)
    refine aw_gI 11 4 129 (hw := wd_1132) (kk := fun v27 => ?_)
    refine aw_icmp_ge 86 214 (kt := fun _ => ?_) (kf := fun _ => ?_)
    · exact am_W.drop [true, false, false, false] (h214 σ)
    · refine aw_aload_n 0 (kk := ?_)
      refine aw_gA 10 21 199 (hw := wd_1176) (kk := fun v28 => ?_)
      refine aw_aload_n 0 (kk := ?_)
      refine aw_gA 10 20 196 (hw := wd_1175) (kk := fun v29 => ?_)
      refine aw_iload_n 1 (kk := ?_)
      refine ac_PI (st := []) [.ref v28, .ref v29, .int x1] (ag_V 132 11 rc_Ps_findb wd_1418 cal_Ps_findb wd_1419 wd_1420) cal_Ps_findb ⟨by decide, by decide⟩ (Nat.le_of_ble_eq_true rfl) (m_Ps_findb g F σ v28 v29 x1) (fun v30 => ?_)
      refine aw_istore_n 2 (kk := ?_)
      refine aw_aload_n 0 (kk := ?_)
      refine aw_gA 10 22 202 (hw := wd_1177) (kk := fun v31 => ?_)
      refine aw_aload_n 0 (kk := ?_)
      refine aw_gA 10 20 196 (hw := wd_1175) (kk := fun v32 => ?_)
      refine aw_iload_n 1 (kk := ?_)
      refine ac_PI (st := []) [.ref v31, .ref v32, .int x1] (ag_V 132 11 rc_Ps_findb wd_1418 cal_Ps_findb wd_1419 wd_1420) cal_Ps_findb ⟨by decide, by decide⟩ (Nat.le_of_ble_eq_true rfl) (m_Ps_findb g F σ v31 v32 x1) (fun v33 => ?_)
      refine aw_istore_n 3 (kk := ?_)
      refine aw_iload_n 2 (kk := ?_)
      refine aw_if_ge 10 168 (kt := fun _ => ?_) (kf := fun _ => ?_)
      · exact am_W.drop [true, true, true, true] (b_Md_mergeMaps_j168 F x0 x1 v30 v33 (fun y1 τ => f_Md_mergeMaps_l120 F x0 k214 n y1 τ) (fun y1 τ => am_W.drop [true, true, false, false] (ih y1 τ)) σ)
      · refine aw_aload_n 0 (kk := ?_)
        refine aw_gA 10 25 224 (hw := wd_1180) (kk := fun v44 => ?_)
        refine aw_iload_n 1 (kk := ?_)
        refine aw_lI (kk := fun v45 => ?_)
        refine aw_istore_n 2 (kk := ?_)
        exact am_W.drop [true, true, true, true] (b_Md_mergeMaps_j168 F x0 x1 v45 v33 (fun y1 τ => f_Md_mergeMaps_l120 F x0 k214 n y1 τ) (fun y1 τ => am_W.drop [true, true, false, false] (ih y1 τ)) σ)
def f_Md_mergeMaps_j278 (F : Nat) (x0 : Nat) (x1 : Int32) (x2 : Int32) (k216 : Int32 → am_S → Option ((Nat ⊕ Unit) × am_S)) (σ : am_S) : Option ((Nat ⊕ Unit) × am_S) :=
  am_bt (f_Md_decide F σ x0 (-1) x1 x2) (fun a53 σ54 => some (.inl a53, σ54)) fun _ σ56 =>
  k216 (x1 + 1) σ56
theorem b_Md_mergeMaps_j278 {g : am_G} {σ0 : am_S} (F : Nat) (x0 : Nat) (x1 : Int32) (x2 : Int32) (k216 : Int32 → am_S → Option ((Nat ⊕ Unit) × am_S)) (h216 : ∀ (y1 : Int32)  (τ : am_S), am_W g mx_Md_mergeMaps σ0 216 [some (.ref x0), some (.int y1), none, none] [] τ (k216 y1 τ) am_kTV) (σ : am_S) : am_W g mx_Md_mergeMaps σ0 278 [some (.ref x0), some (.int x1), some (.int x2), none] [] σ (f_Md_mergeMaps_j278 F x0 x1 x2 k216 σ) am_kTV := by
  unfold f_Md_mergeMaps_j278
  refine aw_aload_n 0 (kk := ?_)
  refine aw_iconst (-1) (v := (-1)) (kk := ?_)
  refine aw_iload_n 1 (kk := ?_)
  refine aw_iload_n 2 (kk := ?_)
  refine ac_TV (st := []) [.ref x0, .int (-1), .int x1, .int x2] (ag_V 243 10 rc_Md_decide wd_1458 cal_Md_decide wd_1460 ws_56) cal_Md_decide ⟨by decide, by decide⟩ (Nat.le_of_ble_eq_true rfl) (m_Md_decide g F σ x0 (-1) x1 x2) (fun a53 σ54 => ?_) (fun σ56 => ?_)
  · exact at_outV
  refine aw_iinc 1 1 (v := 1) (kk := ?_)
  refine aw_goto (-72) 216 (kk := ?_)
  exact am_W.drop [true, true, false, false] (h216 (x1 + 1) σ56)
def f_Md_mergeMaps_j267 (F : Nat) (x0 : Nat) (x1 : Int32) (x2 : Int32) (k216 : Int32 → am_S → Option ((Nat ⊕ Unit) × am_S)) (σ : am_S) : Option ((Nat ⊕ Unit) × am_S) :=
  if x2 < 0 then
    f_Md_mergeMaps_j278 F x0 x1 x2 (fun y1 τ => k216 y1 τ) σ
  else
    (am_gA σ 10 29 x0).bind fun v57 =>
    (am_sZ σ v57 x2 1).bind fun σ58 =>
    f_Md_mergeMaps_j278 F x0 x1 x2 (fun y1 τ => k216 y1 τ) σ58
theorem b_Md_mergeMaps_j267 {g : am_G} {σ0 : am_S} (F : Nat) (x0 : Nat) (x1 : Int32) (x2 : Int32) (k216 : Int32 → am_S → Option ((Nat ⊕ Unit) × am_S)) (h216 : ∀ (y1 : Int32)  (τ : am_S), am_W g mx_Md_mergeMaps σ0 216 [some (.ref x0), some (.int y1), none, none] [] τ (k216 y1 τ) am_kTV) (σ : am_S) : am_W g mx_Md_mergeMaps σ0 267 [some (.ref x0), some (.int x1), some (.int x2), none] [] σ (f_Md_mergeMaps_j267 F x0 x1 x2 k216 σ) am_kTV := by
  unfold f_Md_mergeMaps_j267
  refine aw_iload_n 2 (kk := ?_)
  refine aw_if_lt 10 278 (kt := fun _ => ?_) (kf := fun _ => ?_)
  · exact am_W.drop [true, true, true, false] (b_Md_mergeMaps_j278 F x0 x1 x2 (fun y1 τ => k216 y1 τ) (fun y1 τ => am_W.drop [true, true, false, false] (h216 y1 τ)) σ)
  · refine aw_aload_n 0 (kk := ?_)
    refine aw_gA 10 29 240 (hw := wd_1184) (kk := fun v57 => ?_)
    refine aw_iload_n 2 (kk := ?_)
    refine aw_iconst 1 (v := 1) (kk := ?_)
    refine aw_sZ (kk := fun σ58 => ?_)
    exact am_W.drop [true, true, true, false] (b_Md_mergeMaps_j278 F x0 x1 x2 (fun y1 τ => k216 y1 τ) (fun y1 τ => am_W.drop [true, true, false, false] (h216 y1 τ)) σ58)
def f_Md_mergeMaps_l216 (F : Nat) (x0 : Nat) (k291 : am_S → Option ((Nat ⊕ Unit) × am_S)) : Nat → Int32 → am_S → Option ((Nat ⊕ Unit) × am_S)
  | 0, _, _ => none
  | n + 1, x1, σ =>
    (am_gA σ 10 21 x0).bind fun v46 =>
    (am_gI σ 11 4 v46).bind fun v47 =>
    if v47 ≤ x1 then
      k291 σ
    else
      (am_gA σ 10 28 x0).bind fun v48 =>
      (am_lI σ .boolean v48 x1).bind fun v49 =>
      if v49 = 0 then
        (am_gA σ 10 22 x0).bind fun v50 =>
        (am_gA σ 10 21 x0).bind fun v51 =>
        (f_Ps_findb F σ v50 v51 x1).bind fun v52 =>
        if v52 < 0 then
          f_Md_mergeMaps_j267 F x0 x1 v52 (fun y1 τ => f_Md_mergeMaps_l216 F x0 k291 n y1 τ) σ
        else
          (am_gA σ 10 29 x0).bind fun v59 =>
          (am_lI σ .boolean v59 v52).bind fun v60 =>
          if v60 = 0 then
            f_Md_mergeMaps_j267 F x0 x1 v52 (fun y1 τ => f_Md_mergeMaps_l216 F x0 k291 n y1 τ) σ
          else
            f_Md_mergeMaps_j267 F x0 x1 (-1) (fun y1 τ => f_Md_mergeMaps_l216 F x0 k291 n y1 τ) σ
      else
        f_Md_mergeMaps_l216 F x0 k291 n (x1 + 1) σ
theorem b_Md_mergeMaps_l216 {g : am_G} {σ0 : am_S} (F : Nat) (x0 : Nat) (k291 : am_S → Option ((Nat ⊕ Unit) × am_S)) (h291 : ∀ (τ : am_S), am_W g mx_Md_mergeMaps σ0 291 [some (.ref x0), none, none, none] [] τ (k291 τ) am_kTV) : ∀ (n : Nat) (x1 : Int32) (σ : am_S), am_W g mx_Md_mergeMaps σ0 216 [some (.ref x0), some (.int x1), none, none] [] σ (f_Md_mergeMaps_l216 F x0 k291 n x1 σ) am_kTV := by
  intro n
  induction n with
  | zero =>
    intro x1 σ
    rw [f_Md_mergeMaps_l216]
    exact am_W.none
  | succ n ih =>
    intro x1 σ
    rw [f_Md_mergeMaps_l216]
    refine aw_iload_n 1 (kk := ?_)
    refine aw_aload_n 0 (kk := ?_)
    refine aw_gA 10 21 199 (hw := wd_1176) (kk := fun v46 => ?_)
    refine aw_gI 11 4 129 (hw := wd_1132) (kk := fun v47 => ?_)
    refine aw_icmp_ge 67 291 (kt := fun _ => ?_) (kf := fun _ => ?_)
    · exact am_W.drop [true, false, false, false] (h291 σ)
    · refine aw_aload_n 0 (kk := ?_)
      refine aw_gA 10 28 237 (hw := wd_1183) (kk := fun v48 => ?_)
      refine aw_iload_n 1 (kk := ?_)
      refine aw_lZ (kk := fun v49 => ?_)
      refine aw_if_eq 6 239 (kt := fun _ => ?_) (kf := fun _ => ?_)
      · refine aw_aload_n 0 (kk := ?_)
        refine aw_gA 10 22 202 (hw := wd_1177) (kk := fun v50 => ?_)
        refine aw_aload_n 0 (kk := ?_)
        refine aw_gA 10 21 199 (hw := wd_1176) (kk := fun v51 => ?_)
        refine aw_iload_n 1 (kk := ?_)
        refine ac_PI (st := []) [.ref v50, .ref v51, .int x1] (ag_V 132 11 rc_Ps_findb wd_1418 cal_Ps_findb wd_1419 wd_1420) cal_Ps_findb ⟨by decide, by decide⟩ (Nat.le_of_ble_eq_true rfl) (m_Ps_findb g F σ v50 v51 x1) (fun v52 => ?_)
        refine aw_istore_n 2 (kk := ?_)
        refine aw_iload_n 2 (kk := ?_)
        refine aw_if_lt 14 267 (kt := fun _ => ?_) (kf := fun _ => ?_)
        · exact am_W.drop [true, true, true, false] (b_Md_mergeMaps_j267 F x0 x1 v52 (fun y1 τ => f_Md_mergeMaps_l216 F x0 k291 n y1 τ) (fun y1 τ => am_W.drop [true, true, false, false] (ih y1 τ)) σ)
        · refine aw_aload_n 0 (kk := ?_)
          refine aw_gA 10 29 240 (hw := wd_1184) (kk := fun v59 => ?_)
          refine aw_iload_n 2 (kk := ?_)
          refine aw_lZ (kk := fun v60 => ?_)
          refine aw_if_eq 5 267 (kt := fun _ => ?_) (kf := fun _ => ?_)
          · exact am_W.drop [true, true, true, false] (b_Md_mergeMaps_j267 F x0 x1 v52 (fun y1 τ => f_Md_mergeMaps_l216 F x0 k291 n y1 τ) (fun y1 τ => am_W.drop [true, true, false, false] (ih y1 τ)) σ)
          · refine aw_iconst (-1) (v := (-1)) (kk := ?_)
            refine aw_istore_n 2 (kk := ?_)
            exact am_W.drop [true, true, true, false] (b_Md_mergeMaps_j267 F x0 x1 (-1) (fun y1 τ => f_Md_mergeMaps_l216 F x0 k291 n y1 τ) (fun y1 τ => am_W.drop [true, true, false, false] (ih y1 τ)) σ)
      · refine aw_goto 49 285 (kk := ?_)
        refine aw_iinc 1 1 (v := 1) (kk := ?_)
        refine aw_goto (-72) 216 (kk := ?_)
        exact am_W.drop [true, true, false, false] (ih (x1 + 1) σ)
def f_Md_mergeMaps_l293 (F : Nat) (x0 : Nat) (k326 : am_S → Option ((Nat ⊕ Unit) × am_S)) : Nat → Int32 → am_S → Option ((Nat ⊕ Unit) × am_S)
  | 0, _, _ => none
  | n + 1, x1, σ =>
    (am_gA σ 10 22 x0).bind fun v61 =>
    (am_gI σ 11 4 v61).bind fun v62 =>
    if v62 ≤ x1 then
      k326 σ
    else
      (am_gA σ 10 29 x0).bind fun v63 =>
      (am_lI σ .boolean v63 x1).bind fun v64 =>
      if v64 = 0 then
        am_bt (f_Md_decide F σ x0 (-1) (-1) x1) (fun a65 σ66 => some (.inl a65, σ66)) fun _ σ68 =>
        f_Md_mergeMaps_l293 F x0 k326 n (x1 + 1) σ68
      else
        f_Md_mergeMaps_l293 F x0 k326 n (x1 + 1) σ
theorem b_Md_mergeMaps_l293 {g : am_G} {σ0 : am_S} (F : Nat) (x0 : Nat) (k326 : am_S → Option ((Nat ⊕ Unit) × am_S)) (h326 : ∀ (τ : am_S), am_W g mx_Md_mergeMaps σ0 326 [some (.ref x0), none, none, none] [] τ (k326 τ) am_kTV) : ∀ (n : Nat) (x1 : Int32) (σ : am_S), am_W g mx_Md_mergeMaps σ0 293 [some (.ref x0), some (.int x1), none, none] [] σ (f_Md_mergeMaps_l293 F x0 k326 n x1 σ) am_kTV := by
  intro n
  induction n with
  | zero =>
    intro x1 σ
    rw [f_Md_mergeMaps_l293]
    exact am_W.none
  | succ n ih =>
    intro x1 σ
    rw [f_Md_mergeMaps_l293]
    refine aw_iload_n 1 (kk := ?_)
    refine aw_aload_n 0 (kk := ?_)
    refine aw_gA 10 22 202 (hw := wd_1177) (kk := fun v61 => ?_)
    refine aw_gI 11 4 129 (hw := wd_1132) (kk := fun v62 => ?_)
    refine aw_icmp_ge 25 326 (kt := fun _ => ?_) (kf := fun _ => ?_)
    · exact am_W.drop [true, false, false, false] (h326 σ)
    · refine aw_aload_n 0 (kk := ?_)
      refine aw_gA 10 29 240 (hw := wd_1184) (kk := fun v63 => ?_)
      refine aw_iload_n 1 (kk := ?_)
      refine aw_lZ (kk := fun v64 => ?_)
      refine aw_if_ne 10 320 (kt := fun _ => ?_) (kf := fun _ => ?_)
      · refine aw_iinc 1 1 (v := 1) (kk := ?_)
        refine aw_goto (-30) 293 (kk := ?_)
        exact am_W.drop [true, true, false, false] (ih (x1 + 1) σ)
      · refine aw_aload_n 0 (kk := ?_)
        refine aw_iconst (-1) (v := (-1)) (kk := ?_)
        refine aw_iconst (-1) (v := (-1)) (kk := ?_)
        refine aw_iload_n 1 (kk := ?_)
        refine ac_TV (st := []) [.ref x0, .int (-1), .int (-1), .int x1] (ag_V 243 10 rc_Md_decide wd_1458 cal_Md_decide wd_1460 ws_56) cal_Md_decide ⟨by decide, by decide⟩ (Nat.le_of_ble_eq_true rfl) (m_Md_decide g F σ x0 (-1) (-1) x1) (fun a65 σ66 => ?_) (fun σ68 => ?_)
        · exact at_outV
        refine aw_iinc 1 1 (v := 1) (kk := ?_)
        refine aw_goto (-30) 293 (kk := ?_)
        exact am_W.drop [true, true, false, false] (ih (x1 + 1) σ68)
def f_Md_mergeMaps_j398 (F : Nat) (x0 : Nat) (x2 : Int32) (x3 : Int32) (k350 : Int32 → Int32 → am_S → Option ((Nat ⊕ Unit) × am_S)) (σ : am_S) : Option ((Nat ⊕ Unit) × am_S) :=
  if x2 < 0 then
    k350 x3 (x3 + 1) σ
  else
    (am_gA σ 10 23 x0).bind fun v77 =>
    (am_gA σ 10 23 x0).bind fun v78 =>
    (f_Ps_comparea F σ v77 x3 v78 x2).bind fun v79 =>
    if 0 ≤ v79 then
      k350 x2 (x3 + 1) σ
    else
      k350 x3 (x3 + 1) σ
theorem b_Md_mergeMaps_j398 {g : am_G} {σ0 : am_S} (F : Nat) (x0 : Nat) (x1 : Int32) (x2 : Int32) (x3 : Int32) (k350 : Int32 → Int32 → am_S → Option ((Nat ⊕ Unit) × am_S)) (h350 : ∀ (y2 : Int32) (y3 : Int32)  (τ : am_S), am_W g mx_Md_mergeMaps σ0 350 [some (.ref x0), some (.int x1), some (.int y2), some (.int y3)] [] τ (k350 y2 y3 τ) am_kTV) (σ : am_S) : am_W g mx_Md_mergeMaps σ0 398 [some (.ref x0), some (.int x1), some (.int x2), some (.int x3)] [] σ (f_Md_mergeMaps_j398 F x0 x2 x3 k350 σ) am_kTV := by
  unfold f_Md_mergeMaps_j398
  refine aw_iload_n 2 (kk := ?_)
  refine aw_if_lt 19 418 (kt := fun _ => ?_) (kf := fun _ => ?_)
  · refine aw_iload_n 3 (kk := ?_)
    refine aw_istore_n 2 (kk := ?_)
    refine aw_iinc 3 1 (v := 1) (kk := ?_)
    refine aw_goto (-73) 350 (kk := ?_)
    exact am_W.drop [true, true, true, true] (h350 x3 (x3 + 1) σ)
  · refine aw_aload_n 0 (kk := ?_)
    refine aw_gA 10 23 170 (hw := wd_1178) (kk := fun v77 => ?_)
    refine aw_iload_n 3 (kk := ?_)
    refine aw_aload_n 0 (kk := ?_)
    refine aw_gA 10 23 170 (hw := wd_1178) (kk := fun v78 => ?_)
    refine aw_iload_n 2 (kk := ?_)
    refine ac_PI (st := []) [.ref v77, .int x3, .ref v78, .int x2] (ag_V 205 11 rc_Ps_comparea wd_1462 cal_Ps_comparea wd_1423 wd_1424) cal_Ps_comparea ⟨by decide, by decide⟩ (Nat.le_of_ble_eq_true rfl) (m_Ps_comparea g F σ v77 x3 v78 x2) (fun v79 => ?_)
    refine aw_if_ge 5 420 (kt := fun _ => ?_) (kf := fun _ => ?_)
    · refine aw_iinc 3 1 (v := 1) (kk := ?_)
      refine aw_goto (-73) 350 (kk := ?_)
      exact am_W.drop [true, true, true, true] (h350 x2 (x3 + 1) σ)
    · refine aw_iload_n 3 (kk := ?_)
      refine aw_istore_n 2 (kk := ?_)
      refine aw_iinc 3 1 (v := 1) (kk := ?_)
      refine aw_goto (-73) 350 (kk := ?_)
      exact am_W.drop [true, true, true, true] (h350 x3 (x3 + 1) σ)
def f_Md_mergeMaps_l350 (F : Nat) (x0 : Nat) (k426 : Int32 → am_S → Option ((Nat ⊕ Unit) × am_S)) : Nat → Int32 → Int32 → am_S → Option ((Nat ⊕ Unit) × am_S)
  | 0, _, _, _ => none
  | n + 1, x2, x3, σ =>
    (am_gA σ 10 23 x0).bind fun v73 =>
    (am_gI σ 11 4 v73).bind fun v74 =>
    if v74 ≤ x3 then
      k426 x2 σ
    else
      (am_gA σ 10 24 x0).bind fun v75 =>
      (am_gI σ 11 4 v75).bind fun v76 =>
      if v76 ≤ 0 then
        f_Md_mergeMaps_j398 F x0 x2 x3 (fun y2 y3 τ => f_Md_mergeMaps_l350 F x0 k426 n y2 y3 τ) σ
      else
        (am_gA σ 10 23 x0).bind fun v80 =>
        (am_gA σ 10 24 x0).bind fun v81 =>
        (am_gA σ 10 24 x0).bind fun v82 =>
        (am_gI σ 11 4 v82).bind fun v83 =>
        (f_Ps_comparea F σ v80 x3 v81 (v83 - 1)).bind fun v84 =>
        if 0 < v84 then
          f_Md_mergeMaps_j398 F x0 x2 x3 (fun y2 y3 τ => f_Md_mergeMaps_l350 F x0 k426 n y2 y3 τ) σ
        else
          f_Md_mergeMaps_l350 F x0 k426 n x2 (x3 + 1) σ
theorem b_Md_mergeMaps_l350 {g : am_G} {σ0 : am_S} (F : Nat) (x0 : Nat) (x1 : Int32) (k426 : Int32 → am_S → Option ((Nat ⊕ Unit) × am_S)) (h426 : ∀ (y2 : Int32)  (τ : am_S), am_W g mx_Md_mergeMaps σ0 426 [some (.ref x0), some (.int x1), some (.int y2), none] [] τ (k426 y2 τ) am_kTV) : ∀ (n : Nat) (x2 : Int32) (x3 : Int32) (σ : am_S), am_W g mx_Md_mergeMaps σ0 350 [some (.ref x0), some (.int x1), some (.int x2), some (.int x3)] [] σ (f_Md_mergeMaps_l350 F x0 k426 n x2 x3 σ) am_kTV := by
  intro n
  induction n with
  | zero =>
    intro x2 x3 σ
    rw [f_Md_mergeMaps_l350]
    exact am_W.none
  | succ n ih =>
    intro x2 x3 σ
    rw [f_Md_mergeMaps_l350]
    refine aw_iload_n 3 (kk := ?_)
    refine aw_aload_n 0 (kk := ?_)
    refine aw_gA 10 23 170 (hw := wd_1178) (kk := fun v73 => ?_)
    refine aw_gI 11 4 129 (hw := wd_1132) (kk := fun v74 => ?_)
    refine aw_icmp_ge 68 426 (kt := fun _ => ?_) (kf := fun _ => ?_)
    · exact am_W.drop [true, true, true, false] (h426 x2 σ)
    · refine aw_aload_n 0 (kk := ?_)
      refine aw_gA 10 24 247 (hw := wd_1179) (kk := fun v75 => ?_)
      refine aw_gI 11 4 129 (hw := wd_1132) (kk := fun v76 => ?_)
      refine aw_if_le 30 398 (kt := fun _ => ?_) (kf := fun _ => ?_)
      · exact am_W.drop [true, true, true, true] (b_Md_mergeMaps_j398 F x0 x1 x2 x3 (fun y2 y3 τ => f_Md_mergeMaps_l350 F x0 k426 n y2 y3 τ) (fun y2 y3 τ => am_W.drop [true, true, true, true] (ih y2 y3 τ)) σ)
      · refine aw_aload_n 0 (kk := ?_)
        refine aw_gA 10 23 170 (hw := wd_1178) (kk := fun v80 => ?_)
        refine aw_iload_n 3 (kk := ?_)
        refine aw_aload_n 0 (kk := ?_)
        refine aw_gA 10 24 247 (hw := wd_1179) (kk := fun v81 => ?_)
        refine aw_aload_n 0 (kk := ?_)
        refine aw_gA 10 24 247 (hw := wd_1179) (kk := fun v82 => ?_)
        refine aw_gI 11 4 129 (hw := wd_1132) (kk := fun v83 => ?_)
        refine aw_iconst 1 (v := 1) (kk := ?_)
        refine aw_isub (kk := ?_)
        refine ac_PI (st := []) [.ref v80, .int x3, .ref v81, .int (v83 - 1)] (ag_V 205 11 rc_Ps_comparea wd_1462 cal_Ps_comparea wd_1423 wd_1424) cal_Ps_comparea ⟨by decide, by decide⟩ (Nat.le_of_ble_eq_true rfl) (m_Ps_comparea g F σ v80 x3 v81 (v83 - 1)) (fun v84 => ?_)
        refine aw_if_gt 6 398 (kt := fun _ => ?_) (kf := fun _ => ?_)
        · exact am_W.drop [true, true, true, true] (b_Md_mergeMaps_j398 F x0 x1 x2 x3 (fun y2 y3 τ => f_Md_mergeMaps_l350 F x0 k426 n y2 y3 τ) (fun y2 y3 τ => am_W.drop [true, true, true, true] (ih y2 y3 τ)) σ)
        · refine aw_goto 25 420 (kk := ?_)
          refine aw_iinc 3 1 (v := 1) (kk := ?_)
          refine aw_goto (-73) 350 (kk := ?_)
          exact am_W.drop [true, true, true, true] (ih x2 (x3 + 1) σ)
def f_Md_mergeMaps_j435 (F : Nat) (x0 : Nat) (x1 : Int32) (x2 : Int32) (t85 : Int32) (k335 : Int32 → am_S → Option ((Nat ⊕ Unit) × am_S)) (σ : am_S) : Option ((Nat ⊕ Unit) × am_S) :=
  am_bt (f_Md_allow F σ t85) (fun a86 σ87 => some (.inl a86, σ87)) fun _ σ89 =>
  (am_gA σ89 10 24 x0).bind fun v90 =>
  (am_gA σ89 10 23 x0).bind fun v91 =>
  (f_Ps_take F σ89 v90 v91 x2).bind fun σ92 =>
  (am_gA σ92 10 24 x0).bind fun v93 =>
  (am_gA σ92 11 2 v93).bind fun v94 =>
  (am_sI σ92 v94 ((3 * x1) + 1) x2).bind fun σ95 =>
  k335 (x1 + 1) σ95
theorem b_Md_mergeMaps_j435 {g : am_G} {σ0 : am_S} (F : Nat) (x0 : Nat) (x1 : Int32) (x2 : Int32) (t85 : Int32) (k335 : Int32 → am_S → Option ((Nat ⊕ Unit) × am_S)) (h335 : ∀ (y1 : Int32)  (τ : am_S), am_W g mx_Md_mergeMaps σ0 335 [some (.ref x0), some (.int y1), none, none] [] τ (k335 y1 τ) am_kTV) (σ : am_S) : am_W g mx_Md_mergeMaps σ0 435 [some (.ref x0), some (.int x1), some (.int x2), none] [.int t85] σ (f_Md_mergeMaps_j435 F x0 x1 x2 t85 k335 σ) am_kTV := by
  unfold f_Md_mergeMaps_j435
  refine ac_TV (st := []) [.int t85] (ag_S 161 wd_1467 cal_Md_allow wd_1468) cal_Md_allow ⟨by decide, by decide⟩ (Nat.le_of_ble_eq_true rfl) (m_Md_allow g F σ t85) (fun a86 σ87 => ?_) (fun σ89 => ?_)
  · exact at_outV
  refine aw_aload_n 0 (kk := ?_)
  refine aw_gA 10 24 247 (hw := wd_1179) (kk := fun v90 => ?_)
  refine aw_aload_n 0 (kk := ?_)
  refine aw_gA 10 23 170 (hw := wd_1178) (kk := fun v91 => ?_)
  refine aw_iload_n 2 (kk := ?_)
  refine ac_V (st := []) [.ref v90, .ref v91, .int x2] (ag_V 250 11 rc_Ps_take wd_1362 cal_Ps_take wd_1363 wd_1364) cal_Ps_take ⟨by decide, by decide⟩ (Nat.le_of_ble_eq_true rfl) (m_Ps_take g F σ89 v90 v91 x2) (fun σ92 => ?_)
  refine aw_aload_n 0 (kk := ?_)
  refine aw_gA 10 24 247 (hw := wd_1179) (kk := fun v93 => ?_)
  refine aw_gA 11 2 142 (hw := wd_1128) (kk := fun v94 => ?_)
  refine aw_iconst 3 (v := 3) (kk := ?_)
  refine aw_iload_n 1 (kk := ?_)
  refine aw_imul (kk := ?_)
  refine aw_iconst 1 (v := 1) (kk := ?_)
  refine aw_iadd (kk := ?_)
  refine aw_iload_n 2 (kk := ?_)
  refine aw_sI (kk := fun σ95 => ?_)
  refine aw_iinc 1 1 (v := 1) (kk := ?_)
  refine aw_goto (-132) 335 (kk := ?_)
  exact am_W.drop [true, true, false, false] (h335 (x1 + 1) σ95)
def f_Md_mergeMaps_j426 (F : Nat) (x0 : Nat) (x1 : Int32) (x2 : Int32) (k335 : Int32 → am_S → Option ((Nat ⊕ Unit) × am_S)) (σ : am_S) : Option ((Nat ⊕ Unit) × am_S) :=
  if x2 < 0 then
    f_Md_mergeMaps_j435 F x0 x1 x2 0 (fun y1 τ => k335 y1 τ) σ
  else
    f_Md_mergeMaps_j435 F x0 x1 x2 1 (fun y1 τ => k335 y1 τ) σ
theorem b_Md_mergeMaps_j426 {g : am_G} {σ0 : am_S} (F : Nat) (x0 : Nat) (x1 : Int32) (x2 : Int32) (k335 : Int32 → am_S → Option ((Nat ⊕ Unit) × am_S)) (h335 : ∀ (y1 : Int32)  (τ : am_S), am_W g mx_Md_mergeMaps σ0 335 [some (.ref x0), some (.int y1), none, none] [] τ (k335 y1 τ) am_kTV) (σ : am_S) : am_W g mx_Md_mergeMaps σ0 426 [some (.ref x0), some (.int x1), some (.int x2), none] [] σ (f_Md_mergeMaps_j426 F x0 x1 x2 k335 σ) am_kTV := by
  unfold f_Md_mergeMaps_j426
  refine aw_iload_n 2 (kk := ?_)
  refine aw_if_lt 7 434 (kt := fun _ => ?_) (kf := fun _ => ?_)
  · refine aw_iconst 0 (v := 0) (kk := ?_)
    exact am_W.drop [true, true, true, false] (b_Md_mergeMaps_j435 F x0 x1 x2 0 (fun y1 τ => k335 y1 τ) (fun y1 τ => am_W.drop [true, true, false, false] (h335 y1 τ)) σ)
  · refine aw_iconst 1 (v := 1) (kk := ?_)
    refine aw_goto 4 435 (kk := ?_)
    exact am_W.drop [true, true, true, false] (b_Md_mergeMaps_j435 F x0 x1 x2 1 (fun y1 τ => k335 y1 τ) (fun y1 τ => am_W.drop [true, true, false, false] (h335 y1 τ)) σ)
def f_Md_mergeMaps_l335 (F : Nat) (x0 : Nat) (k470 : am_S → Option ((Nat ⊕ Unit) × am_S)) : Nat → Int32 → am_S → Option ((Nat ⊕ Unit) × am_S)
  | 0, _, _ => none
  | n + 1, x1, σ =>
    (am_gA σ 10 23 x0).bind fun v71 =>
    (am_gI σ 11 4 v71).bind fun v72 =>
    if v72 ≤ x1 then
      k470 σ
    else
      f_Md_mergeMaps_l350 F x0 (fun y2 τ => f_Md_mergeMaps_j426 F x0 x1 y2 (fun y1 τ => f_Md_mergeMaps_l335 F x0 k470 n y1 τ) τ) F (-1) 0 σ
theorem b_Md_mergeMaps_l335 {g : am_G} {σ0 : am_S} (F : Nat) (x0 : Nat) (k470 : am_S → Option ((Nat ⊕ Unit) × am_S)) (h470 : ∀ (τ : am_S), am_W g mx_Md_mergeMaps σ0 470 [some (.ref x0), none, none, none] [] τ (k470 τ) am_kTV) : ∀ (n : Nat) (x1 : Int32) (σ : am_S), am_W g mx_Md_mergeMaps σ0 335 [some (.ref x0), some (.int x1), none, none] [] σ (f_Md_mergeMaps_l335 F x0 k470 n x1 σ) am_kTV := by
  intro n
  induction n with
  | zero =>
    intro x1 σ
    rw [f_Md_mergeMaps_l335]
    exact am_W.none
  | succ n ih =>
    intro x1 σ
    rw [f_Md_mergeMaps_l335]
    refine aw_iload_n 1 (kk := ?_)
    refine aw_aload_n 0 (kk := ?_)
    refine aw_gA 10 23 170 (hw := wd_1178) (kk := fun v71 => ?_)
    refine aw_gI 11 4 129 (hw := wd_1132) (kk := fun v72 => ?_)
    refine aw_icmp_ge 127 470 (kt := fun _ => ?_) (kf := fun _ => ?_)
    · exact am_W.drop [true, false, false, false] (h470 σ)
    · refine aw_iconst (-1) (v := (-1)) (kk := ?_)
      refine aw_istore_n 2 (kk := ?_)
      refine aw_iconst 0 (v := 0) (kk := ?_)
      refine aw_istore_n 3 (kk := ?_)
      exact am_W.drop [true, true, true, true] (b_Md_mergeMaps_l350 F x0 x1 (fun y2 τ => f_Md_mergeMaps_j426 F x0 x1 y2 (fun y1 τ => f_Md_mergeMaps_l335 F x0 k470 n y1 τ) τ) (fun y2 τ => am_W.drop [true, true, true, false] (b_Md_mergeMaps_j426 F x0 x1 y2 (fun y1 τ => f_Md_mergeMaps_l335 F x0 k470 n y1 τ) (fun y1 τ => am_W.drop [true, true, false, false] (ih y1 τ)) τ)) F (-1) 0 σ)
def f_Md_mergeMaps_j470 (F : Nat) (x0 : Nat)  (σ : am_S) : Option ((Nat ⊕ Unit) × am_S) :=
  (am_gA σ 10 24 x0).bind fun v96 =>
  (f_Ps_fits F σ v96).bind fun v97 =>
  am_bt (f_Md_allow F σ v97) (fun a98 σ99 => some (.inl a98, σ99)) fun _ σ101 =>
  some (.inr (), σ101)
theorem b_Md_mergeMaps_j470 {g : am_G} {σ0 : am_S} (F : Nat) (x0 : Nat)   (σ : am_S) : am_W g mx_Md_mergeMaps σ0 470 [some (.ref x0), none, none, none] [] σ (f_Md_mergeMaps_j470 F x0 σ) am_kTV := by
  unfold f_Md_mergeMaps_j470
  refine aw_aload_n 0 (kk := ?_)
  refine aw_gA 10 24 247 (hw := wd_1179) (kk := fun v96 => ?_)
  refine ac_PI (st := []) [.ref v96] (ag_V 254 11 rc_Ps_fits wd_1372 cal_Ps_fits wd_1373 wd_1374) cal_Ps_fits ⟨by decide, by decide⟩ (Nat.le_of_ble_eq_true rfl) (m_Ps_fits g F σ v96) (fun v97 => ?_)
  refine ac_TV (st := []) [.int v97] (ag_S 161 wd_1467 cal_Md_allow wd_1468) cal_Md_allow ⟨by decide, by decide⟩ (Nat.le_of_ble_eq_true rfl) (m_Md_allow g F σ v97) (fun a98 σ99 => ?_) (fun σ101 => ?_)
  · exact at_outV
  exact aw_vretT
def f_Md_mergeMaps_j326 (F : Nat) (x0 : Nat)  (σ : am_S) : Option ((Nat ⊕ Unit) × am_S) :=
  (am_gA σ 10 24 x0).bind fun v69 =>
  (f_Ps_clear F σ v69).bind fun σ70 =>
  f_Md_mergeMaps_l335 F x0 (fun τ => f_Md_mergeMaps_j470 F x0 τ) F 0 σ70
theorem b_Md_mergeMaps_j326 {g : am_G} {σ0 : am_S} (F : Nat) (x0 : Nat)   (σ : am_S) : am_W g mx_Md_mergeMaps σ0 326 [some (.ref x0), none, none, none] [] σ (f_Md_mergeMaps_j326 F x0 σ) am_kTV := by
  unfold f_Md_mergeMaps_j326
  refine aw_aload_n 0 (kk := ?_)
  refine aw_gA 10 24 247 (hw := wd_1179) (kk := fun v69 => ?_)
  refine ac_V (st := []) [.ref v69] (ag_V 223 11 rc_Ps_clear wd_1147 cal_Ps_clear wd_1148 wd_1149) cal_Ps_clear ⟨by decide, by decide⟩ (Nat.le_of_ble_eq_true rfl) (m_Ps_clear g F σ v69) (fun σ70 => ?_)
  refine aw_iconst 0 (v := 0) (kk := ?_)
  refine aw_istore_n 1 (kk := ?_)
  exact am_W.drop [true, true, false, false] (b_Md_mergeMaps_l335 F x0 (fun τ => f_Md_mergeMaps_j470 F x0 τ) (fun τ => am_W.drop [true, false, false, false] (b_Md_mergeMaps_j470 F x0 τ)) F 0 σ70)
def f_Md_mergeMaps_j291 (F : Nat) (x0 : Nat)  (σ : am_S) : Option ((Nat ⊕ Unit) × am_S) :=
  f_Md_mergeMaps_l293 F x0 (fun τ => f_Md_mergeMaps_j326 F x0 τ) F 0 σ
theorem b_Md_mergeMaps_j291 {g : am_G} {σ0 : am_S} (F : Nat) (x0 : Nat)   (σ : am_S) : am_W g mx_Md_mergeMaps σ0 291 [some (.ref x0), none, none, none] [] σ (f_Md_mergeMaps_j291 F x0 σ) am_kTV := by
  unfold f_Md_mergeMaps_j291
  refine aw_iconst 0 (v := 0) (kk := ?_)
  refine aw_istore_n 1 (kk := ?_)
  exact am_W.drop [true, true, false, false] (b_Md_mergeMaps_l293 F x0 (fun τ => f_Md_mergeMaps_j326 F x0 τ) (fun τ => am_W.drop [true, false, false, false] (b_Md_mergeMaps_j326 F x0 τ)) F 0 σ)
def f_Md_mergeMaps_j214 (F : Nat) (x0 : Nat)  (σ : am_S) : Option ((Nat ⊕ Unit) × am_S) :=
  f_Md_mergeMaps_l216 F x0 (fun τ => f_Md_mergeMaps_j291 F x0 τ) F 0 σ
theorem b_Md_mergeMaps_j214 {g : am_G} {σ0 : am_S} (F : Nat) (x0 : Nat)   (σ : am_S) : am_W g mx_Md_mergeMaps σ0 214 [some (.ref x0), none, none, none] [] σ (f_Md_mergeMaps_j214 F x0 σ) am_kTV := by
  unfold f_Md_mergeMaps_j214
  refine aw_iconst 0 (v := 0) (kk := ?_)
  refine aw_istore_n 1 (kk := ?_)
  exact am_W.drop [true, true, false, false] (b_Md_mergeMaps_l216 F x0 (fun τ => f_Md_mergeMaps_j291 F x0 τ) (fun τ => am_W.drop [true, false, false, false] (b_Md_mergeMaps_j291 F x0 τ)) F 0 σ)
def f_Md_mergeMaps_j118 (F : Nat) (x0 : Nat)  (σ : am_S) : Option ((Nat ⊕ Unit) × am_S) :=
  f_Md_mergeMaps_l120 F x0 (fun τ => f_Md_mergeMaps_j214 F x0 τ) F 0 σ
theorem b_Md_mergeMaps_j118 {g : am_G} {σ0 : am_S} (F : Nat) (x0 : Nat)   (σ : am_S) : am_W g mx_Md_mergeMaps σ0 118 [some (.ref x0), none, none, none] [] σ (f_Md_mergeMaps_j118 F x0 σ) am_kTV := by
  unfold f_Md_mergeMaps_j118
  refine aw_iconst 0 (v := 0) (kk := ?_)
  refine aw_istore_n 1 (kk := ?_)
  exact am_W.drop [true, true, false, false] (b_Md_mergeMaps_l120 F x0 (fun τ => f_Md_mergeMaps_j214 F x0 τ) (fun τ => am_W.drop [true, false, false, false] (b_Md_mergeMaps_j214 F x0 τ)) F 0 σ)
def f_Md_mergeMaps_j92 (F : Nat) (x0 : Nat)  (σ : am_S) : Option ((Nat ⊕ Unit) × am_S) :=
  f_Md_mergeMaps_l94 F x0 (fun τ => f_Md_mergeMaps_j118 F x0 τ) F 0 σ
theorem b_Md_mergeMaps_j92 {g : am_G} {σ0 : am_S} (F : Nat) (x0 : Nat)   (σ : am_S) : am_W g mx_Md_mergeMaps σ0 92 [some (.ref x0), none, none, none] [] σ (f_Md_mergeMaps_j92 F x0 σ) am_kTV := by
  unfold f_Md_mergeMaps_j92
  refine aw_iconst 0 (v := 0) (kk := ?_)
  refine aw_istore_n 1 (kk := ?_)
  exact am_W.drop [true, true, false, false] (b_Md_mergeMaps_l94 F x0 (fun τ => f_Md_mergeMaps_j118 F x0 τ) (fun τ => am_W.drop [true, false, false, false] (b_Md_mergeMaps_j118 F x0 τ)) F 0 σ)
def f_Md_mergeMaps (F : Nat) (σ : am_S) (x0 : Nat) : Option ((Nat ⊕ Unit) × am_S) :=
  am_ck σ 10 x0 (
  (am_gA σ 10 23 x0).bind fun v1 =>
  (f_Ps_clear F σ v1).bind fun σ2 =>
  (am_gA σ2 10 30 x0).bind fun v3 =>
  (f_Ro_clear F σ2 v3).bind fun σ4 =>
  (am_pI σ4 10 33 x0 0).bind fun σ5 =>
  (am_gA σ5 10 32 x0).bind fun v6 =>
  (am_sI σ5 v6 0 0).bind fun σ7 =>
  (am_gA σ7 10 20 x0).bind fun v8 =>
  (am_gA σ7 10 21 x0).bind fun v9 =>
  (am_gA σ7 10 25 x0).bind fun v10 =>
  (am_gA σ7 10 27 x0).bind fun v11 =>
  (f_Md_renames F σ7 x0 v8 v9 v10 v11).bind fun σ12 =>
  (am_gA σ12 10 20 x0).bind fun v13 =>
  (am_gA σ12 10 22 x0).bind fun v14 =>
  (am_gA σ12 10 26 x0).bind fun v15 =>
  (am_gA σ12 10 27 x0).bind fun v16 =>
  (f_Md_renames F σ12 x0 v13 v14 v15 v16).bind fun σ17 =>
  f_Md_mergeMaps_l68 F x0 (fun τ => f_Md_mergeMaps_j92 F x0 τ) F 0 σ17)
theorem rc_Md_mergeMaps {F : Nat} {σ : am_S} {x0 : Nat} (h : (f_Md_mergeMaps F σ x0).isSome = true) : ∃ fs, σ.2.2 x0 = some (.inr (10, fs)) := am_ck_some h
theorem m_Md_mergeMaps (g : am_G) (F : Nat) (σ : am_S) (x0 : Nat) : am_Met g mx_Md_mergeMaps [.ref x0] σ ((f_Md_mergeMaps F σ x0).bind am_kTV) := by
  refine am_Met.of (lv := [some (.ref x0), none, none, none]) (am_cc rfl am_c0) (Nat.le_of_ble_eq_true rfl) rfl (by decide) ?_
  unfold f_Md_mergeMaps
  refine am_W.ck ?_
  refine aw_aload_n 0 (kk := ?_)
  refine aw_gA 10 23 170 (hw := wd_1178) (kk := fun v1 => ?_)
  refine ac_V (st := []) [.ref v1] (ag_V 223 11 rc_Ps_clear wd_1147 cal_Ps_clear wd_1148 wd_1149) cal_Ps_clear ⟨by decide, by decide⟩ (Nat.le_of_ble_eq_true rfl) (m_Ps_clear g F σ v1) (fun σ2 => ?_)
  refine aw_aload_n 0 (kk := ?_)
  refine aw_gA 10 30 151 (hw := wd_1185) (kk := fun v3 => ?_)
  refine ac_V (st := []) [.ref v3] (ag_V 93 12 rc_Ro_clear wd_1320 cal_Ro_clear wd_1152 wd_1153) cal_Ro_clear ⟨by decide, by decide⟩ (Nat.le_of_ble_eq_true rfl) (m_Ro_clear g F σ2 v3) (fun σ4 => ?_)
  refine aw_aload_n 0 (kk := ?_)
  refine aw_iconst 0 (v := 0) (kk := ?_)
  refine aw_pI 10 33 167 (hw := wd_1188) (kk := fun σ5 => ?_)
  refine aw_aload_n 0 (kk := ?_)
  refine aw_gA 10 32 154 (hw := wd_1187) (kk := fun v6 => ?_)
  refine aw_iconst 0 (v := 0) (kk := ?_)
  refine aw_iconst 0 (v := 0) (kk := ?_)
  refine aw_sI (kk := fun σ7 => ?_)
  refine aw_aload_n 0 (kk := ?_)
  refine aw_aload_n 0 (kk := ?_)
  refine aw_gA 10 20 196 (hw := wd_1175) (kk := fun v8 => ?_)
  refine aw_aload_n 0 (kk := ?_)
  refine aw_gA 10 21 199 (hw := wd_1176) (kk := fun v9 => ?_)
  refine aw_aload_n 0 (kk := ?_)
  refine aw_gA 10 25 224 (hw := wd_1180) (kk := fun v10 => ?_)
  refine aw_aload_n 0 (kk := ?_)
  refine aw_gA 10 27 227 (hw := wd_1182) (kk := fun v11 => ?_)
  refine ac_V (st := []) [.ref x0, .ref v8, .ref v9, .ref v10, .ref v11] (ag_V 230 10 rc_Md_renames wd_1414 cal_Md_renames wd_1416 ws_48) cal_Md_renames ⟨by decide, by decide⟩ (Nat.le_of_ble_eq_true rfl) (m_Md_renames g F σ7 x0 v8 v9 v10 v11) (fun σ12 => ?_)
  refine aw_aload_n 0 (kk := ?_)
  refine aw_aload_n 0 (kk := ?_)
  refine aw_gA 10 20 196 (hw := wd_1175) (kk := fun v13 => ?_)
  refine aw_aload_n 0 (kk := ?_)
  refine aw_gA 10 22 202 (hw := wd_1177) (kk := fun v14 => ?_)
  refine aw_aload_n 0 (kk := ?_)
  refine aw_gA 10 26 234 (hw := wd_1181) (kk := fun v15 => ?_)
  refine aw_aload_n 0 (kk := ?_)
  refine aw_gA 10 27 227 (hw := wd_1182) (kk := fun v16 => ?_)
  refine ac_V (st := []) [.ref x0, .ref v13, .ref v14, .ref v15, .ref v16] (ag_V 230 10 rc_Md_renames wd_1414 cal_Md_renames wd_1416 ws_48) cal_Md_renames ⟨by decide, by decide⟩ (Nat.le_of_ble_eq_true rfl) (m_Md_renames g F σ12 x0 v13 v14 v15 v16) (fun σ17 => ?_)
  refine aw_iconst 0 (v := 0) (kk := ?_)
  refine aw_istore_n 1 (kk := ?_)
  exact am_W.drop [true, true, false, false] (b_Md_mergeMaps_l68 F x0 (fun τ => f_Md_mergeMaps_j92 F x0 τ) (fun τ => am_W.drop [true, false, false, false] (b_Md_mergeMaps_j92 F x0 τ)) F 0 σ17)
def f_Md_isName_l16 (σ : am_S) (F : Nat) (x0 : Nat) (x2 : Int32) (k54 : Option (Int32)) : Nat → Int32 → Option (Int32)
  | 0, _ => none
  | n + 1, x3 =>
    if x2 ≤ x3 then
      k54
    else
      (f_Ro_get F σ x0 x3).bind fun v2 =>
      (f_Md_in F σ v2 33 126).bind fun v3 =>
      if v3 = 0 then
        some 0
      else
        (f_Ro_get F σ x0 x3).bind fun v4 =>
        if v4 = 47 then
          some 0
        else
          f_Md_isName_l16 σ F x0 x2 k54 n (x3 + 1)
theorem b_Md_isName_l16 {g : am_G} {σ0 σ : am_S} (F : Nat) (x0 : Nat) (x1 : Int32) (x2 : Int32) (k54 : Option (Int32)) (h54 : am_W g mx_Md_isName σ0 54 [some (.ref x0), some (.int x1), some (.int x2), none] [] σ (k54) (am_kPI σ)) : ∀ (n : Nat) (x3 : Int32), am_W g mx_Md_isName σ0 16 [some (.ref x0), some (.int x1), some (.int x2), some (.int x3)] [] σ (f_Md_isName_l16 σ F x0 x2 k54 n x3) (am_kPI σ) := by
  intro n
  induction n with
  | zero =>
    intro x3
    rw [f_Md_isName_l16]
    exact am_W.none
  | succ n ih =>
    intro x3
    rw [f_Md_isName_l16]
    refine aw_iload_n 3 (kk := ?_)
    refine aw_iload_n 2 (kk := ?_)
    refine aw_icmp_ge 36 54 (kt := fun _ => ?_) (kf := fun _ => ?_)
    · exact am_W.drop [true, true, true, false] (h54 )
    · refine aw_aload_n 0 (kk := ?_)
      refine aw_iload_n 3 (kk := ?_)
      refine ac_PI (st := []) [.ref x0, .int x3] (ag_V 42 12 rc_Ro_get wd_1335 cal_Ro_get wd_1336 wd_1337) cal_Ro_get ⟨by decide, by decide⟩ (Nat.le_of_ble_eq_true rfl) (m_Ro_get g F σ x0 x3) (fun v2 => ?_)
      refine aw_bipush 33 (v := 33) (kk := ?_)
      refine aw_bipush 126 (v := 126) (kk := ?_)
      refine ac_PI (st := []) [.int v2, .int 33, .int 126] (ag_S 258 wd_1329 cal_Md_in wd_1330) cal_Md_in ⟨by decide, by decide⟩ (Nat.le_of_ble_eq_true rfl) (m_Md_in g F σ v2 33 126) (fun v3 => ?_)
      refine aw_if_eq 13 46 (kt := fun _ => ?_) (kf := fun _ => ?_)
      · refine aw_iconst 0 (v := 0) (kk := ?_)
        exact aw_zretPL (by decide)
      · refine aw_aload_n 0 (kk := ?_)
        refine aw_iload_n 3 (kk := ?_)
        refine ac_PI (st := []) [.ref x0, .int x3] (ag_V 42 12 rc_Ro_get wd_1335 cal_Ro_get wd_1336 wd_1337) cal_Ro_get ⟨by decide, by decide⟩ (Nat.le_of_ble_eq_true rfl) (m_Ro_get g F σ x0 x3) (fun v4 => ?_)
        refine aw_bipush 47 (v := 47) (kk := ?_)
        refine aw_icmp_ne 5 48 (kt := fun _ => ?_) (kf := fun _ => ?_)
        · refine aw_iinc 3 1 (v := 1) (kk := ?_)
          refine aw_goto (-35) 16 (kk := ?_)
          exact am_W.drop [true, true, true, true] (ih (x3 + 1))
        · refine aw_iconst 0 (v := 0) (kk := ?_)
          exact aw_zretPL (by decide)
def f_Md_isName_j100 (σ : am_S) (F : Nat)  : Option (Int32) :=
  some 1
theorem b_Md_isName_j100 {g : am_G} {σ0 σ : am_S} (F : Nat)   : am_W g mx_Md_isName σ0 100 [none, none, none, none] [] σ (f_Md_isName_j100 σ F) (am_kPI σ) := by
  unfold f_Md_isName_j100
  refine aw_iconst 1 (v := 1) (kk := ?_)
  refine aw_goto 4 105 (kk := ?_)
  exact aw_zretPL (by decide)
def f_Md_isName_j71 (σ : am_S) (F : Nat) (x0 : Nat) (x1 : Int32) (x2 : Int32)  : Option (Int32) :=
  if (x2 - x1) = 2 then
    (f_Ro_get F σ x0 x1).bind fun v5 =>
    if v5 = 46 then
      (f_Ro_get F σ x0 (x1 + 1)).bind fun v6 =>
      if v6 = 46 then
        some 0
      else
        f_Md_isName_j100 σ F
    else
      f_Md_isName_j100 σ F
  else
    f_Md_isName_j100 σ F
theorem b_Md_isName_j71 {g : am_G} {σ0 σ : am_S} (F : Nat) (x0 : Nat) (x1 : Int32) (x2 : Int32)   : am_W g mx_Md_isName σ0 71 [some (.ref x0), some (.int x1), some (.int x2), none] [] σ (f_Md_isName_j71 σ F x0 x1 x2) (am_kPI σ) := by
  unfold f_Md_isName_j71
  refine aw_iload_n 2 (kk := ?_)
  refine aw_iload_n 1 (kk := ?_)
  refine aw_isub (kk := ?_)
  refine aw_iconst 2 (v := 2) (kk := ?_)
  refine aw_icmp_ne 25 100 (kt := fun _ => ?_) (kf := fun _ => ?_)
  · exact am_W.drop [false, false, false, false] (b_Md_isName_j100 F)
  · refine aw_aload_n 0 (kk := ?_)
    refine aw_iload_n 1 (kk := ?_)
    refine ac_PI (st := []) [.ref x0, .int x1] (ag_V 42 12 rc_Ro_get wd_1335 cal_Ro_get wd_1336 wd_1337) cal_Ro_get ⟨by decide, by decide⟩ (Nat.le_of_ble_eq_true rfl) (m_Ro_get g F σ x0 x1) (fun v5 => ?_)
    refine aw_bipush 46 (v := 46) (kk := ?_)
    refine aw_icmp_ne 15 100 (kt := fun _ => ?_) (kf := fun _ => ?_)
    · exact am_W.drop [false, false, false, false] (b_Md_isName_j100 F)
    · refine aw_aload_n 0 (kk := ?_)
      refine aw_iload_n 1 (kk := ?_)
      refine aw_iconst 1 (v := 1) (kk := ?_)
      refine aw_iadd (kk := ?_)
      refine ac_PI (st := []) [.ref x0, .int (x1 + 1)] (ag_V 42 12 rc_Ro_get wd_1335 cal_Ro_get wd_1336 wd_1337) cal_Ro_get ⟨by decide, by decide⟩ (Nat.le_of_ble_eq_true rfl) (m_Ro_get g F σ x0 (x1 + 1)) (fun v6 => ?_)
      refine aw_bipush 46 (v := 46) (kk := ?_)
      refine aw_icmp_eq 7 104 (kt := fun _ => ?_) (kf := fun _ => ?_)
      · refine aw_iconst 0 (v := 0) (kk := ?_)
        exact aw_zretPL (by decide)
      · exact am_W.drop [false, false, false, false] (b_Md_isName_j100 F)
def f_Md_isName_j54 (σ : am_S) (F : Nat) (x0 : Nat) (x1 : Int32) (x2 : Int32)  : Option (Int32) :=
  if (x2 - x1) = 1 then
    (f_Ro_get F σ x0 x1).bind fun v7 =>
    if v7 = 46 then
      some 0
    else
      f_Md_isName_j71 σ F x0 x1 x2
  else
    f_Md_isName_j71 σ F x0 x1 x2
theorem b_Md_isName_j54 {g : am_G} {σ0 σ : am_S} (F : Nat) (x0 : Nat) (x1 : Int32) (x2 : Int32)   : am_W g mx_Md_isName σ0 54 [some (.ref x0), some (.int x1), some (.int x2), none] [] σ (f_Md_isName_j54 σ F x0 x1 x2) (am_kPI σ) := by
  unfold f_Md_isName_j54
  refine aw_iload_n 2 (kk := ?_)
  refine aw_iload_n 1 (kk := ?_)
  refine aw_isub (kk := ?_)
  refine aw_iconst 1 (v := 1) (kk := ?_)
  refine aw_icmp_ne 13 71 (kt := fun _ => ?_) (kf := fun _ => ?_)
  · exact am_W.drop [true, true, true, false] (b_Md_isName_j71 F x0 x1 x2)
  · refine aw_aload_n 0 (kk := ?_)
    refine aw_iload_n 1 (kk := ?_)
    refine ac_PI (st := []) [.ref x0, .int x1] (ag_V 42 12 rc_Ro_get wd_1335 cal_Ro_get wd_1336 wd_1337) cal_Ro_get ⟨by decide, by decide⟩ (Nat.le_of_ble_eq_true rfl) (m_Ro_get g F σ x0 x1) (fun v7 => ?_)
    refine aw_bipush 46 (v := 46) (kk := ?_)
    refine aw_icmp_eq 36 104 (kt := fun _ => ?_) (kf := fun _ => ?_)
    · refine aw_iconst 0 (v := 0) (kk := ?_)
      exact aw_zretPL (by decide)
    · exact am_W.drop [true, true, true, false] (b_Md_isName_j71 F x0 x1 x2)
def f_Md_isName (F : Nat) (σ : am_S) (x0 : Nat) (x1 : Int32) (x2 : Int32) : Option (Int32) :=
  (f_Md_in F σ (x2 - x1) 1 100).bind fun v1 =>
  if v1 = 0 then
    some 0
  else
    f_Md_isName_l16 σ F x0 x2 (f_Md_isName_j54 σ F x0 x1 x2) F x1
theorem m_Md_isName (g : am_G) (F : Nat) (σ : am_S) (x0 : Nat) (x1 : Int32) (x2 : Int32) : am_Met g mx_Md_isName [.ref x0, .int x1, .int x2] σ ((f_Md_isName F σ x0 x1 x2).bind (am_kPI σ)) := by
  refine am_Met.of (lv := [some (.ref x0), some (.int x1), some (.int x2), none]) (am_cc rfl (am_cc rfl (am_cc rfl am_c0))) (Nat.le_of_ble_eq_true rfl) rfl (by decide) ?_
  unfold f_Md_isName
  refine aw_iload_n 2 (kk := ?_)
  refine aw_iload_n 1 (kk := ?_)
  refine aw_isub (kk := ?_)
  refine aw_iconst 1 (v := 1) (kk := ?_)
  refine aw_bipush 100 (v := 100) (kk := ?_)
  refine ac_PI (st := []) [.int (x2 - x1), .int 1, .int 100] (ag_S 258 wd_1329 cal_Md_in wd_1330) cal_Md_in ⟨by decide, by decide⟩ (Nat.le_of_ble_eq_true rfl) (m_Md_in g F σ (x2 - x1) 1 100) (fun v1 => ?_)
  refine aw_if_ne 5 14 (kt := fun _ => ?_) (kf := fun _ => ?_)
  · refine aw_iload_n 1 (kk := ?_)
    refine aw_istore_n 3 (kk := ?_)
    exact am_W.drop [true, true, true, true] (b_Md_isName_l16 F x0 x1 x2 (f_Md_isName_j54 σ F x0 x1 x2) (am_W.drop [true, true, true, false] (b_Md_isName_j54 F x0 x1 x2)) F x1)
  · refine aw_iconst 0 (v := 0) (kk := ?_)
    exact aw_zretPL (by decide)
def f_Md_isPath_j51 (σ : am_S) (F : Nat) (x0 : Nat) (x1 : Int32) (x2 : Int32) (x3 : Int32) (k22 : Int32 → Int32 → Int32 → Option (Int32)) : Option (Int32) :=
  (f_Md_isName F σ x0 x1 x3).bind fun v5 =>
  if v5 = 0 then
    some 0
  else
    k22 (x3 + 1) (x2 + 1) (x3 + 1)
theorem b_Md_isPath_j51 {g : am_G} {σ0 σ : am_S} (F : Nat) (x0 : Nat) (x1 : Int32) (x2 : Int32) (x3 : Int32) (k22 : Int32 → Int32 → Int32 → Option (Int32)) (h22 : ∀ (y1 : Int32) (y2 : Int32) (y3 : Int32), am_W g mx_Md_isPath σ0 22 [some (.ref x0), some (.int y1), some (.int y2), some (.int y3)] [] σ (k22 y1 y2 y3) (am_kPI σ)) : am_W g mx_Md_isPath σ0 51 [some (.ref x0), some (.int x1), some (.int x2), some (.int x3)] [] σ (f_Md_isPath_j51 σ F x0 x1 x2 x3 k22) (am_kPI σ) := by
  unfold f_Md_isPath_j51
  refine aw_aload_n 0 (kk := ?_)
  refine aw_iload_n 1 (kk := ?_)
  refine aw_iload_n 3 (kk := ?_)
  refine ac_PI (st := []) [.ref x0, .int x1, .int x3] (ag_S 262 wd_1339 cal_Md_isName wd_1340) cal_Md_isName ⟨by decide, by decide⟩ (Nat.le_of_ble_eq_true rfl) (m_Md_isName g F σ x0 x1 x3) (fun v5 => ?_)
  refine aw_if_ne 5 62 (kt := fun _ => ?_) (kf := fun _ => ?_)
  · refine aw_iinc 2 1 (v := 1) (kk := ?_)
    refine aw_iload_n 3 (kk := ?_)
    refine aw_iconst 1 (v := 1) (kk := ?_)
    refine aw_iadd (kk := ?_)
    refine aw_istore_n 1 (kk := ?_)
    refine aw_iinc 3 1 (v := 1) (kk := ?_)
    refine aw_goto (-50) 22 (kk := ?_)
    exact am_W.drop [true, true, true, true] (h22 (x3 + 1) (x2 + 1) (x3 + 1))
  · refine aw_iconst 0 (v := 0) (kk := ?_)
    exact aw_zretPL (by decide)
def f_Md_isPath_l22 (σ : am_S) (F : Nat) (x0 : Nat) (k75 : Int32 → Option (Int32)) : Nat → Int32 → Int32 → Int32 → Option (Int32)
  | 0, _, _, _ => none
  | n + 1, x1, x2, x3 =>
    (am_gI σ 12 1 x0).bind fun v3 =>
    if v3 < x3 then
      k75 x2
    else
      (am_gI σ 12 1 x0).bind fun v4 =>
      if v4 ≤ x3 then
        f_Md_isPath_j51 σ F x0 x1 x2 x3 (fun y1 y2 y3 => f_Md_isPath_l22 σ F x0 k75 n y1 y2 y3)
      else
        (f_Ro_get F σ x0 x3).bind fun v6 =>
        if v6 = 47 then
          f_Md_isPath_j51 σ F x0 x1 x2 x3 (fun y1 y2 y3 => f_Md_isPath_l22 σ F x0 k75 n y1 y2 y3)
        else
          f_Md_isPath_l22 σ F x0 k75 n x1 x2 (x3 + 1)
theorem b_Md_isPath_l22 {g : am_G} {σ0 σ : am_S} (F : Nat) (x0 : Nat) (k75 : Int32 → Option (Int32)) (h75 : ∀ (y2 : Int32), am_W g mx_Md_isPath σ0 75 [none, none, some (.int y2), none] [] σ (k75 y2) (am_kPI σ)) : ∀ (n : Nat) (x1 : Int32) (x2 : Int32) (x3 : Int32), am_W g mx_Md_isPath σ0 22 [some (.ref x0), some (.int x1), some (.int x2), some (.int x3)] [] σ (f_Md_isPath_l22 σ F x0 k75 n x1 x2 x3) (am_kPI σ) := by
  intro n
  induction n with
  | zero =>
    intro x1 x2 x3
    rw [f_Md_isPath_l22]
    exact am_W.none
  | succ n ih =>
    intro x1 x2 x3
    rw [f_Md_isPath_l22]
    refine aw_iload_n 3 (kk := ?_)
    refine aw_aload_n 0 (kk := ?_)
    refine aw_gI 12 1 7 (hw := wd_1116) (kk := fun v3 => ?_)
    refine aw_icmp_gt 48 75 (kt := fun _ => ?_) (kf := fun _ => ?_)
    · exact am_W.drop [false, false, true, false] (h75 x2)
    · refine aw_iload_n 3 (kk := ?_)
      refine aw_aload_n 0 (kk := ?_)
      refine aw_gI 12 1 7 (hw := wd_1116) (kk := fun v4 => ?_)
      refine aw_icmp_ge 16 51 (kt := fun _ => ?_) (kf := fun _ => ?_)
      · exact am_W.drop [true, true, true, true] (b_Md_isPath_j51 F x0 x1 x2 x3 (fun y1 y2 y3 => f_Md_isPath_l22 σ F x0 k75 n y1 y2 y3) (fun y1 y2 y3 => am_W.drop [true, true, true, true] (ih y1 y2 y3)))
      · refine aw_aload_n 0 (kk := ?_)
        refine aw_iload_n 3 (kk := ?_)
        refine ac_PI (st := []) [.ref x0, .int x3] (ag_V 42 12 rc_Ro_get wd_1335 cal_Ro_get wd_1336 wd_1337) cal_Ro_get ⟨by decide, by decide⟩ (Nat.le_of_ble_eq_true rfl) (m_Ro_get g F σ x0 x3) (fun v6 => ?_)
        refine aw_bipush 47 (v := 47) (kk := ?_)
        refine aw_icmp_eq 6 51 (kt := fun _ => ?_) (kf := fun _ => ?_)
        · exact am_W.drop [true, true, true, true] (b_Md_isPath_j51 F x0 x1 x2 x3 (fun y1 y2 y3 => f_Md_isPath_l22 σ F x0 k75 n y1 y2 y3) (fun y1 y2 y3 => am_W.drop [true, true, true, true] (ih y1 y2 y3)))
        · refine aw_goto 21 69 (kk := ?_)
          refine aw_iinc 3 1 (v := 1) (kk := ?_)
          refine aw_goto (-50) 22 (kk := ?_)
          exact am_W.drop [true, true, true, true] (ih x1 x2 (x3 + 1))
def f_Md_isPath_j75 (σ : am_S) (F : Nat) (x2 : Int32)  : Option (Int32) :=
  if 20 < x2 then
    some 0
  else
    some 1
theorem b_Md_isPath_j75 {g : am_G} {σ0 σ : am_S} (F : Nat) (x2 : Int32)   : am_W g mx_Md_isPath σ0 75 [none, none, some (.int x2), none] [] σ (f_Md_isPath_j75 σ F x2) (am_kPI σ) := by
  unfold f_Md_isPath_j75
  refine aw_iload_n 2 (kk := ?_)
  refine aw_bipush 20 (v := 20) (kk := ?_)
  refine aw_icmp_gt 7 85 (kt := fun _ => ?_) (kf := fun _ => ?_)
  · refine aw_iconst 0 (v := 0) (kk := ?_)
    exact aw_zretPL (by decide)
  · refine aw_iconst 1 (v := 1) (kk := ?_)
    refine aw_goto 4 86 (kk := ?_)
    exact aw_zretPL (by decide)
def f_Md_isPath (F : Nat) (σ : am_S) (x0 : Nat) : Option (Int32) :=
  (am_gI σ 12 1 x0).bind fun v1 =>
  (f_Md_in F σ v1 1 255).bind fun v2 =>
  if v2 = 0 then
    some 0
  else
    f_Md_isPath_l22 σ F x0 (fun y2 => f_Md_isPath_j75 σ F y2) F 0 0 0
theorem m_Md_isPath (g : am_G) (F : Nat) (σ : am_S) (x0 : Nat) : am_Met g mx_Md_isPath [.ref x0] σ ((f_Md_isPath F σ x0).bind (am_kPI σ)) := by
  refine am_Met.of (lv := [some (.ref x0), none, none, none]) (am_cc rfl am_c0) (Nat.le_of_ble_eq_true rfl) rfl (by decide) ?_
  unfold f_Md_isPath
  refine aw_aload_n 0 (kk := ?_)
  refine aw_gI 12 1 7 (hw := wd_1116) (kk := fun v1 => ?_)
  refine aw_iconst 1 (v := 1) (kk := ?_)
  refine aw_sipush 255 (v := 255) (kk := ?_)
  refine ac_PI (st := []) [.int v1, .int 1, .int 255] (ag_S 258 wd_1329 cal_Md_in wd_1330) cal_Md_in ⟨by decide, by decide⟩ (Nat.le_of_ble_eq_true rfl) (m_Md_in g F σ v1 1 255) (fun v2 => ?_)
  refine aw_if_ne 5 16 (kt := fun _ => ?_) (kf := fun _ => ?_)
  · refine aw_iconst 0 (v := 0) (kk := ?_)
    refine aw_istore_n 1 (kk := ?_)
    refine aw_iconst 0 (v := 0) (kk := ?_)
    refine aw_istore_n 2 (kk := ?_)
    refine aw_iconst 0 (v := 0) (kk := ?_)
    refine aw_istore_n 3 (kk := ?_)
    exact am_W.drop [true, true, true, true] (b_Md_isPath_l22 F x0 (fun y2 => f_Md_isPath_j75 σ F y2) (fun y2 => am_W.drop [false, false, true, false] (b_Md_isPath_j75 F y2)) F 0 0 0)
  · refine aw_iconst 0 (v := 0) (kk := ?_)
    exact aw_zretPL (by decide)
def f_Md_takeAll (F : Nat) (σ : am_S) (x0 : Nat) : Option (Int32 × am_S) :=
  am_ck σ 10 x0 (
  (am_gI σ 10 7 x0).bind fun v1 =>
  (am_pI σ 10 7 x0 0).bind fun σ2 =>
  some (v1, σ2))
theorem rc_Md_takeAll {F : Nat} {σ : am_S} {x0 : Nat} (h : (f_Md_takeAll F σ x0).isSome = true) : ∃ fs, σ.2.2 x0 = some (.inr (10, fs)) := am_ck_some h
theorem m_Md_takeAll (g : am_G) (F : Nat) (σ : am_S) (x0 : Nat) : am_Met g mx_Md_takeAll [.ref x0] σ ((f_Md_takeAll F σ x0).bind am_kI) := by
  refine am_Met.of (lv := [some (.ref x0), none]) (am_cc rfl am_c0) (Nat.le_of_ble_eq_true rfl) rfl (by decide) ?_
  unfold f_Md_takeAll
  refine am_W.ck ?_
  refine aw_aload_n 0 (kk := ?_)
  refine aw_gI 10 7 266 (hw := wd_1162) (kk := fun v1 => ?_)
  refine aw_istore_n 1 (kk := ?_)
  refine aw_aload_n 0 (kk := ?_)
  refine aw_iconst 0 (v := 0) (kk := ?_)
  refine aw_pI 10 7 266 (hw := wd_1162) (kk := fun σ2 => ?_)
  refine aw_iload_n 1 (kk := ?_)
  exact aw_iret
def f_Md_bad (F : Nat) (σ : am_S) (x0 : Nat) : Option (Int32 × am_S) :=
  am_ck σ 10 x0 (
  (am_pI σ 10 0 x0 1).bind fun σ1 =>
  some (0, σ1))
theorem rc_Md_bad {F : Nat} {σ : am_S} {x0 : Nat} (h : (f_Md_bad F σ x0).isSome = true) : ∃ fs, σ.2.2 x0 = some (.inr (10, fs)) := am_ck_some h
theorem m_Md_bad (g : am_G) (F : Nat) (σ : am_S) (x0 : Nat) : am_Met g mx_Md_bad [.ref x0] σ ((f_Md_bad F σ x0).bind am_kI) := by
  refine am_Met.of (lv := [some (.ref x0)]) (am_cc rfl am_c0) (Nat.le_of_ble_eq_true rfl) rfl (by decide) ?_
  unfold f_Md_bad
  refine am_W.ck ?_
  refine aw_aload_n 0 (kk := ?_)
  refine aw_iconst 1 (v := 1) (kk := ?_)
  refine aw_pI 10 0 269 (hw := wd_1155) (kk := fun σ1 => ?_)
  refine aw_iconst 0 (v := 0) (kk := ?_)
  exact aw_iret
def f_Md_refused (F : Nat) (σ : am_S) (x0 : Nat) : Option (Int32 × am_S) :=
  am_ck σ 10 x0 (
  (am_pI σ 10 0 x0 2).bind fun σ1 =>
  some (0, σ1))
theorem rc_Md_refused {F : Nat} {σ : am_S} {x0 : Nat} (h : (f_Md_refused F σ x0).isSome = true) : ∃ fs, σ.2.2 x0 = some (.inr (10, fs)) := am_ck_some h
theorem m_Md_refused (g : am_G) (F : Nat) (σ : am_S) (x0 : Nat) : am_Met g mx_Md_refused [.ref x0] σ ((f_Md_refused F σ x0).bind am_kI) := by
  refine am_Met.of (lv := [some (.ref x0)]) (am_cc rfl am_c0) (Nat.le_of_ble_eq_true rfl) rfl (by decide) ?_
  unfold f_Md_refused
  refine am_W.ck ?_
  refine aw_aload_n 0 (kk := ?_)
  refine aw_iconst 2 (v := 2) (kk := ?_)
  refine aw_pI 10 0 269 (hw := wd_1155) (kk := fun σ1 => ?_)
  refine aw_iconst 0 (v := 0) (kk := ?_)
  exact aw_iret
def f_Md_init_l499 (F : Nat) (x1 : Nat) (x2 : Int32)  : Nat → Int32 → am_S → Option (am_S)
  | 0, _, _ => none
  | n + 1, x3, σ =>
    if x2 ≤ x3 then
      some σ
    else
      (am_lA σ 11 x1 x3).bind fun v126 =>
      (f_Ps_clear F σ v126).bind fun σ127 =>
      f_Md_init_l499 F x1 x2 n (x3 + 1) σ127
theorem b_Md_init_l499 {g : am_G} {σ0 : am_S} (F : Nat) (x1 : Nat) (x2 : Int32)   : ∀ (n : Nat) (x3 : Int32) (σ : am_S), am_W g mx_Md_init σ0 499 [none, some (.ref x1), some (.int x2), some (.int x3), none] [] σ (f_Md_init_l499 F x1 x2 n x3 σ) am_kV := by
  intro n
  induction n with
  | zero =>
    intro x3 σ
    rw [f_Md_init_l499]
    exact am_W.none
  | succ n ih =>
    intro x3 σ
    rw [f_Md_init_l499]
    refine aw_iload_n 3 (kk := ?_)
    refine aw_iload_n 2 (kk := ?_)
    refine aw_icmp_ge 19 520 (kt := fun _ => ?_) (kf := fun _ => ?_)
    · exact aw_vret
    · refine aw_aload_n 1 (kk := ?_)
      refine aw_iload_n 3 (kk := ?_)
      refine aw_lA 11 (kk := fun v126 => ?_)
      refine aw_astore 4 (kk := ?_)
      refine aw_aload 4 (kk := ?_)
      refine ac_V (st := []) [.ref v126] (ag_V 223 11 rc_Ps_clear wd_1147 cal_Ps_clear wd_1148 wd_1149) cal_Ps_clear ⟨by decide, by decide⟩ (Nat.le_of_ble_eq_true rfl) (m_Ps_clear g F σ v126) (fun σ127 => ?_)
      refine aw_iinc 3 1 (v := 1) (kk := ?_)
      refine aw_goto (-18) 499 (kk := ?_)
      exact am_W.drop [false, true, true, true, false] (ih (x3 + 1) σ127)
def f_Md_init (F : Nat) (σ : am_S) (x0 : Nat) : Option (am_S) :=
  am_ck σ 10 x0 (
  am_b2 (am_nA σ 11 3) fun a1 σ2 =>
  (f_Ps_init F (am_no σ2 11) σ2.1).bind fun σ3 =>
  (am_sA σ3 11 a1 0 σ2.1).bind fun σ4 =>
  (f_Ps_init F (am_no σ4 11) σ4.1).bind fun σ5 =>
  (am_sA σ5 11 a1 1 σ4.1).bind fun σ6 =>
  (f_Ps_init F (am_no σ6 11) σ6.1).bind fun σ7 =>
  (am_sA σ7 11 a1 2 σ6.1).bind fun σ8 =>
  (am_pA σ8 10 1 x0 a1).bind fun σ9 =>
  (f_Ro_init F (am_no σ9 12) σ9.1 1024).bind fun σ10 =>
  (am_pA σ10 10 2 x0 σ9.1).bind fun σ11 =>
  am_b2 (am_na σ11 .int 502) fun a12 σ13 =>
  (am_pA σ13 10 3 x0 a12).bind fun σ14 =>
  (f_Ro_init F (am_no σ14 12) σ14.1 64).bind fun σ15 =>
  (am_pA σ15 10 5 x0 σ14.1).bind fun σ16 =>
  am_b2 (am_nA σ16 12 4) fun a17 σ18 =>
  (f_Ro_init F (am_no σ18 12) σ18.1 64).bind fun σ19 =>
  (am_sA σ19 12 a17 0 σ18.1).bind fun σ20 =>
  (f_Ro_init F (am_no σ20 12) σ20.1 64).bind fun σ21 =>
  (am_sA σ21 12 a17 1 σ20.1).bind fun σ22 =>
  (f_Ro_init F (am_no σ22 12) σ22.1 64).bind fun σ23 =>
  (am_sA σ23 12 a17 2 σ22.1).bind fun σ24 =>
  (f_Ro_init F (am_no σ24 12) σ24.1 64).bind fun σ25 =>
  (am_sA σ25 12 a17 3 σ24.1).bind fun σ26 =>
  (am_pA σ26 10 6 x0 a17).bind fun σ27 =>
  am_b2 (am_nA σ27 12 3) fun a28 σ29 =>
  (f_Ro_init F (am_no σ29 12) σ29.1 256).bind fun σ30 =>
  (am_sA σ30 12 a28 0 σ29.1).bind fun σ31 =>
  (f_Ro_init F (am_no σ31 12) σ31.1 256).bind fun σ32 =>
  (am_sA σ32 12 a28 1 σ31.1).bind fun σ33 =>
  (f_Ro_init F (am_no σ33 12) σ33.1 256).bind fun σ34 =>
  (am_sA σ34 12 a28 2 σ33.1).bind fun σ35 =>
  (am_pA σ35 10 8 x0 a28).bind fun σ36 =>
  am_b2 (am_na σ36 .int 606) fun a37 σ38 =>
  (am_pA σ38 10 9 x0 a37).bind fun σ39 =>
  am_b2 (am_na σ39 .int 600) fun a40 σ41 =>
  (am_pA σ41 10 10 x0 a40).bind fun σ42 =>
  am_b2 (am_na σ42 .int 3) fun a43 σ44 =>
  (am_pA σ44 10 11 x0 a43).bind fun σ45 =>
  am_b2 (am_na σ45 .int 600) fun a46 σ47 =>
  (am_pA σ47 10 12 x0 a46).bind fun σ48 =>
  am_b2 (am_na σ48 .int 202) fun a49 σ50 =>
  (am_pA σ50 10 13 x0 a49).bind fun σ51 =>
  am_b2 (am_na σ51 .int 202) fun a52 σ53 =>
  (am_pA σ53 10 14 x0 a52).bind fun σ54 =>
  am_b2 (am_na σ54 .int 400) fun a55 σ56 =>
  (am_pA σ56 10 15 x0 a55).bind fun σ57 =>
  am_b2 (am_na σ57 .int 400) fun a58 σ59 =>
  (am_pA σ59 10 16 x0 a58).bind fun σ60 =>
  am_b2 (am_na σ60 .short 2500) fun a61 σ62 =>
  (am_pA σ62 10 17 x0 a61).bind fun σ63 =>
  (am_gA σ63 10 1 x0).bind fun v64 =>
  (am_lA σ63 11 v64 0).bind fun v65 =>
  (am_pA σ63 10 20 x0 v65).bind fun σ66 =>
  (am_gA σ66 10 1 x0).bind fun v67 =>
  (am_lA σ66 11 v67 1).bind fun v68 =>
  (am_pA σ66 10 21 x0 v68).bind fun σ69 =>
  (am_gA σ69 10 1 x0).bind fun v70 =>
  (am_lA σ69 11 v70 2).bind fun v71 =>
  (am_pA σ69 10 22 x0 v71).bind fun σ72 =>
  (f_Ps_init F (am_no σ72 11) σ72.1).bind fun σ73 =>
  (am_pA σ73 10 23 x0 σ72.1).bind fun σ74 =>
  (f_Ps_init F (am_no σ74 11) σ74.1).bind fun σ75 =>
  (am_pA σ75 10 24 x0 σ74.1).bind fun σ76 =>
  am_b2 (am_na σ76 .int 1700) fun a77 σ78 =>
  (am_pA σ78 10 25 x0 a77).bind fun σ79 =>
  am_b2 (am_na σ79 .int 1700) fun a80 σ81 =>
  (am_pA σ81 10 26 x0 a80).bind fun σ82 =>
  am_b2 (am_na σ82 .int 1700) fun a83 σ84 =>
  (am_pA σ84 10 27 x0 a83).bind fun σ85 =>
  am_b2 (am_na σ85 .boolean 1700) fun a86 σ87 =>
  (am_pA σ87 10 28 x0 a86).bind fun σ88 =>
  am_b2 (am_na σ88 .boolean 1700) fun a89 σ90 =>
  (am_pA σ90 10 29 x0 a89).bind fun σ91 =>
  (f_Ro_init F (am_no σ91 12) σ91.1 1024).bind fun σ92 =>
  (am_pA σ92 10 30 x0 σ91.1).bind fun σ93 =>
  (f_Ro_init F (am_no σ93 12) σ93.1 1024).bind fun σ94 =>
  (am_pA σ94 10 31 x0 σ93.1).bind fun σ95 =>
  am_b2 (am_na σ95 .int 1700) fun a96 σ97 =>
  (am_pA σ97 10 32 x0 a96).bind fun σ98 =>
  am_b2 (am_na σ98 .int 1700) fun a99 σ100 =>
  (am_pA σ100 10 34 x0 a99).bind fun σ101 =>
  am_b2 (am_na σ101 .int 1700) fun a102 σ103 =>
  (am_pA σ103 10 35 x0 a102).bind fun σ104 =>
  am_b2 (am_na σ104 .int 1700) fun a105 σ106 =>
  (am_pA σ106 10 36 x0 a105).bind fun σ107 =>
  (f_Ps_init F (am_no σ107 11) σ107.1).bind fun σ108 =>
  (am_pA σ108 10 37 x0 σ107.1).bind fun σ109 =>
  (f_Ps_init F (am_no σ109 11) σ109.1).bind fun σ110 =>
  (am_pA σ110 10 38 x0 σ109.1).bind fun σ111 =>
  (f_Ro_init F (am_no σ111 12) σ111.1 1024).bind fun σ112 =>
  (am_pA σ112 10 39 x0 σ111.1).bind fun σ113 =>
  am_b2 (am_na σ113 .int 1700) fun a114 σ115 =>
  (am_pA σ115 10 40 x0 a114).bind fun σ116 =>
  am_b2 (am_na σ116 .int 1700) fun a117 σ118 =>
  (am_pA σ118 10 41 x0 a117).bind fun σ119 =>
  (am_gA σ119 10 23 x0).bind fun v120 =>
  (f_Ps_clear F σ119 v120).bind fun σ121 =>
  (am_gA σ121 10 38 x0).bind fun v122 =>
  (f_Ps_clear F σ121 v122).bind fun σ123 =>
  (am_gA σ123 10 1 x0).bind fun v124 =>
  (am_len σ123 v124).bind fun v125 =>
  f_Md_init_l499 F v124 v125 F 0 σ123)
theorem rc_Md_init {F : Nat} {σ : am_S} {x0 : Nat} (h : (f_Md_init F σ x0).isSome = true) : ∃ fs, σ.2.2 x0 = some (.inr (10, fs)) := am_ck_some h
theorem m_Md_init (g : am_G) (F : Nat) (σ : am_S) (x0 : Nat) : am_Met g mx_Md_init [.ref x0] σ ((f_Md_init F σ x0).bind am_kV) := by
  refine am_Met.of (lv := [some (.ref x0), none, none, none, none]) (am_cc rfl am_c0) (Nat.le_of_ble_eq_true rfl) rfl (by decide) ?_
  unfold f_Md_init
  refine am_W.ck ?_
  refine aw_aload_n 0 (kk := ?_)
  refine aw_obj 272 (hw := wd_1099) (hw2 := wd_33) (hw3 := wd_34) (hr := Nat.le_of_ble_eq_true rfl) (kk := ?_)
  refine aw_aload_n 0 (kk := ?_)
  refine aw_iconst 3 (v := 3) (kk := ?_)
  refine aw_nA2 11 130 (hw := wd_1100) (hw2 := wd_1101) (kk := fun a1 σ2 => ?_)
  refine aw_dup (kk := ?_)
  refine aw_iconst 0 (v := 0) (kk := ?_)
  refine aw_new 11 130 (hw := wd_1100) (hw2 := wd_1102) (hw3 := wd_12) (kk := ?_)
  refine aw_dup (kk := ?_)
  refine ac_V (st := [.ref σ2.1, .int 0, .ref a1, .ref a1, .ref x0]) [.ref σ2.1] (ag_IN 277 "MapMergerModel" wd_1103 cal_Ps_init wd_1104) cal_Ps_init ⟨by decide, by decide⟩ (Nat.le_of_ble_eq_true rfl) (m_Ps_init g F (am_no σ2 11) σ2.1) (fun σ3 => ?_)
  refine aw_sA 11 (kk := fun σ4 => ?_)
  refine aw_dup (kk := ?_)
  refine aw_iconst 1 (v := 1) (kk := ?_)
  refine aw_new 11 130 (hw := wd_1100) (hw2 := wd_1102) (hw3 := wd_12) (kk := ?_)
  refine aw_dup (kk := ?_)
  refine ac_V (st := [.ref σ4.1, .int 1, .ref a1, .ref a1, .ref x0]) [.ref σ4.1] (ag_IN 277 "MapMergerModel" wd_1103 cal_Ps_init wd_1104) cal_Ps_init ⟨by decide, by decide⟩ (Nat.le_of_ble_eq_true rfl) (m_Ps_init g F (am_no σ4 11) σ4.1) (fun σ5 => ?_)
  refine aw_sA 11 (kk := fun σ6 => ?_)
  refine aw_dup (kk := ?_)
  refine aw_iconst 2 (v := 2) (kk := ?_)
  refine aw_new 11 130 (hw := wd_1100) (hw2 := wd_1102) (hw3 := wd_12) (kk := ?_)
  refine aw_dup (kk := ?_)
  refine ac_V (st := [.ref σ6.1, .int 2, .ref a1, .ref a1, .ref x0]) [.ref σ6.1] (ag_IN 277 "MapMergerModel" wd_1103 cal_Ps_init wd_1104) cal_Ps_init ⟨by decide, by decide⟩ (Nat.le_of_ble_eq_true rfl) (m_Ps_init g F (am_no σ6 11) σ6.1) (fun σ7 => ?_)
  refine aw_sA 11 (kk := fun σ8 => ?_)
  refine aw_pAF 10 1 278 (hw := wd_1156) (kk := fun σ9 => ?_)
  refine aw_aload_n 0 (kk := ?_)
  refine aw_new 12 8 (hw := wd_1144) (hw2 := wd_1108) (hw3 := wd_13) (kk := ?_)
  refine aw_dup (kk := ?_)
  refine aw_sipush 1024 (v := 1024) (kk := ?_)
  refine ac_V (st := [.ref σ9.1, .ref x0]) [.ref σ9.1, .int 1024] (ag_I 282 wd_1145 cal_Ro_init wd_1110) cal_Ro_init ⟨by decide, by decide⟩ (Nat.le_of_ble_eq_true rfl) (m_Ro_init g F (am_no σ9 12) σ9.1 1024) (fun σ10 => ?_)
  refine aw_pAF 10 2 20 (hw := wd_1157) (kk := fun σ11 => ?_)
  refine aw_aload_n 0 (kk := ?_)
  refine aw_sipush 502 (v := 502) (kk := ?_)
  refine aw_na2 .int (hw := wd_55) (kk := fun a12 σ13 => ?_)
  refine aw_pAF 10 3 24 (hw := wd_1158) (kk := fun σ14 => ?_)
  refine aw_aload_n 0 (kk := ?_)
  refine aw_new 12 8 (hw := wd_1144) (hw2 := wd_1108) (hw3 := wd_13) (kk := ?_)
  refine aw_dup (kk := ?_)
  refine aw_bipush 64 (v := 64) (kk := ?_)
  refine ac_V (st := [.ref σ14.1, .ref x0]) [.ref σ14.1, .int 64] (ag_I 282 wd_1145 cal_Ro_init wd_1110) cal_Ro_init ⟨by decide, by decide⟩ (Nat.le_of_ble_eq_true rfl) (m_Ro_init g F (am_no σ14 12) σ14.1 64) (fun σ15 => ?_)
  refine aw_pAF 10 5 284 (hw := wd_1160) (kk := fun σ16 => ?_)
  refine aw_aload_n 0 (kk := ?_)
  refine aw_iconst 4 (v := 4) (kk := ?_)
  refine aw_nA2 12 8 (hw := wd_1144) (hw2 := wd_1146) (kk := fun a17 σ18 => ?_)
  refine aw_dup (kk := ?_)
  refine aw_iconst 0 (v := 0) (kk := ?_)
  refine aw_new 12 8 (hw := wd_1144) (hw2 := wd_1108) (hw3 := wd_13) (kk := ?_)
  refine aw_dup (kk := ?_)
  refine aw_bipush 64 (v := 64) (kk := ?_)
  refine ac_V (st := [.ref σ18.1, .int 0, .ref a17, .ref a17, .ref x0]) [.ref σ18.1, .int 64] (ag_I 282 wd_1145 cal_Ro_init wd_1110) cal_Ro_init ⟨by decide, by decide⟩ (Nat.le_of_ble_eq_true rfl) (m_Ro_init g F (am_no σ18 12) σ18.1 64) (fun σ19 => ?_)
  refine aw_sA 12 (kk := fun σ20 => ?_)
  refine aw_dup (kk := ?_)
  refine aw_iconst 1 (v := 1) (kk := ?_)
  refine aw_new 12 8 (hw := wd_1144) (hw2 := wd_1108) (hw3 := wd_13) (kk := ?_)
  refine aw_dup (kk := ?_)
  refine aw_bipush 64 (v := 64) (kk := ?_)
  refine ac_V (st := [.ref σ20.1, .int 1, .ref a17, .ref a17, .ref x0]) [.ref σ20.1, .int 64] (ag_I 282 wd_1145 cal_Ro_init wd_1110) cal_Ro_init ⟨by decide, by decide⟩ (Nat.le_of_ble_eq_true rfl) (m_Ro_init g F (am_no σ20 12) σ20.1 64) (fun σ21 => ?_)
  refine aw_sA 12 (kk := fun σ22 => ?_)
  refine aw_dup (kk := ?_)
  refine aw_iconst 2 (v := 2) (kk := ?_)
  refine aw_new 12 8 (hw := wd_1144) (hw2 := wd_1108) (hw3 := wd_13) (kk := ?_)
  refine aw_dup (kk := ?_)
  refine aw_bipush 64 (v := 64) (kk := ?_)
  refine ac_V (st := [.ref σ22.1, .int 2, .ref a17, .ref a17, .ref x0]) [.ref σ22.1, .int 64] (ag_I 282 wd_1145 cal_Ro_init wd_1110) cal_Ro_init ⟨by decide, by decide⟩ (Nat.le_of_ble_eq_true rfl) (m_Ro_init g F (am_no σ22 12) σ22.1 64) (fun σ23 => ?_)
  refine aw_sA 12 (kk := fun σ24 => ?_)
  refine aw_dup (kk := ?_)
  refine aw_iconst 3 (v := 3) (kk := ?_)
  refine aw_new 12 8 (hw := wd_1144) (hw2 := wd_1108) (hw3 := wd_13) (kk := ?_)
  refine aw_dup (kk := ?_)
  refine aw_bipush 64 (v := 64) (kk := ?_)
  refine ac_V (st := [.ref σ24.1, .int 3, .ref a17, .ref a17, .ref x0]) [.ref σ24.1, .int 64] (ag_I 282 wd_1145 cal_Ro_init wd_1110) cal_Ro_init ⟨by decide, by decide⟩ (Nat.le_of_ble_eq_true rfl) (m_Ro_init g F (am_no σ24 12) σ24.1 64) (fun σ25 => ?_)
  refine aw_sA 12 (kk := fun σ26 => ?_)
  refine aw_pAF 10 6 287 (hw := wd_1161) (kk := fun σ27 => ?_)
  refine aw_aload_n 0 (kk := ?_)
  refine aw_iconst 3 (v := 3) (kk := ?_)
  refine aw_nA2 12 8 (hw := wd_1144) (hw2 := wd_1146) (kk := fun a28 σ29 => ?_)
  refine aw_dup (kk := ?_)
  refine aw_iconst 0 (v := 0) (kk := ?_)
  refine aw_new 12 8 (hw := wd_1144) (hw2 := wd_1108) (hw3 := wd_13) (kk := ?_)
  refine aw_dup (kk := ?_)
  refine aw_sipush 256 (v := 256) (kk := ?_)
  refine ac_V (st := [.ref σ29.1, .int 0, .ref a28, .ref a28, .ref x0]) [.ref σ29.1, .int 256] (ag_I 282 wd_1145 cal_Ro_init wd_1110) cal_Ro_init ⟨by decide, by decide⟩ (Nat.le_of_ble_eq_true rfl) (m_Ro_init g F (am_no σ29 12) σ29.1 256) (fun σ30 => ?_)
  refine aw_sA 12 (kk := fun σ31 => ?_)
  refine aw_dup (kk := ?_)
  refine aw_iconst 1 (v := 1) (kk := ?_)
  refine aw_new 12 8 (hw := wd_1144) (hw2 := wd_1108) (hw3 := wd_13) (kk := ?_)
  refine aw_dup (kk := ?_)
  refine aw_sipush 256 (v := 256) (kk := ?_)
  refine ac_V (st := [.ref σ31.1, .int 1, .ref a28, .ref a28, .ref x0]) [.ref σ31.1, .int 256] (ag_I 282 wd_1145 cal_Ro_init wd_1110) cal_Ro_init ⟨by decide, by decide⟩ (Nat.le_of_ble_eq_true rfl) (m_Ro_init g F (am_no σ31 12) σ31.1 256) (fun σ32 => ?_)
  refine aw_sA 12 (kk := fun σ33 => ?_)
  refine aw_dup (kk := ?_)
  refine aw_iconst 2 (v := 2) (kk := ?_)
  refine aw_new 12 8 (hw := wd_1144) (hw2 := wd_1108) (hw3 := wd_13) (kk := ?_)
  refine aw_dup (kk := ?_)
  refine aw_sipush 256 (v := 256) (kk := ?_)
  refine ac_V (st := [.ref σ33.1, .int 2, .ref a28, .ref a28, .ref x0]) [.ref σ33.1, .int 256] (ag_I 282 wd_1145 cal_Ro_init wd_1110) cal_Ro_init ⟨by decide, by decide⟩ (Nat.le_of_ble_eq_true rfl) (m_Ro_init g F (am_no σ33 12) σ33.1 256) (fun σ34 => ?_)
  refine aw_sA 12 (kk := fun σ35 => ?_)
  refine aw_pAF 10 8 32 (hw := wd_1163) (kk := fun σ36 => ?_)
  refine aw_aload_n 0 (kk := ?_)
  refine aw_sipush 606 (v := 606) (kk := ?_)
  refine aw_na2 .int (hw := wd_55) (kk := fun a37 σ38 => ?_)
  refine aw_pAF 10 9 36 (hw := wd_1164) (kk := fun σ39 => ?_)
  refine aw_aload_n 0 (kk := ?_)
  refine aw_sipush 600 (v := 600) (kk := ?_)
  refine aw_na2 .int (hw := wd_55) (kk := fun a40 σ41 => ?_)
  refine aw_pAF 10 10 57 (hw := wd_1165) (kk := fun σ42 => ?_)
  refine aw_aload_n 0 (kk := ?_)
  refine aw_iconst 3 (v := 3) (kk := ?_)
  refine aw_na2 .int (hw := wd_55) (kk := fun a43 σ44 => ?_)
  refine aw_pAF 10 11 39 (hw := wd_1166) (kk := fun σ45 => ?_)
  refine aw_aload_n 0 (kk := ?_)
  refine aw_sipush 600 (v := 600) (kk := ?_)
  refine aw_na2 .int (hw := wd_55) (kk := fun a46 σ47 => ?_)
  refine aw_pAF 10 12 66 (hw := wd_1167) (kk := fun σ48 => ?_)
  refine aw_aload_n 0 (kk := ?_)
  refine aw_sipush 202 (v := 202) (kk := ?_)
  refine aw_na2 .int (hw := wd_55) (kk := fun a49 σ50 => ?_)
  refine aw_pAF 10 13 63 (hw := wd_1168) (kk := fun σ51 => ?_)
  refine aw_aload_n 0 (kk := ?_)
  refine aw_sipush 202 (v := 202) (kk := ?_)
  refine aw_na2 .int (hw := wd_55) (kk := fun a52 σ53 => ?_)
  refine aw_pAF 10 14 60 (hw := wd_1169) (kk := fun σ54 => ?_)
  refine aw_aload_n 0 (kk := ?_)
  refine aw_sipush 400 (v := 400) (kk := ?_)
  refine aw_na2 .int (hw := wd_55) (kk := fun a55 σ56 => ?_)
  refine aw_pAF 10 15 136 (hw := wd_1170) (kk := fun σ57 => ?_)
  refine aw_aload_n 0 (kk := ?_)
  refine aw_sipush 400 (v := 400) (kk := ?_)
  refine aw_na2 .int (hw := wd_55) (kk := fun a58 σ59 => ?_)
  refine aw_pAF 10 16 139 (hw := wd_1171) (kk := fun σ60 => ?_)
  refine aw_aload_n 0 (kk := ?_)
  refine aw_sipush 2500 (v := 2500) (kk := ?_)
  refine aw_na2 .short (hw := wd_1282) (kk := fun a61 σ62 => ?_)
  refine aw_pAF 10 17 144 (hw := wd_1172) (kk := fun σ63 => ?_)
  refine aw_aload_n 0 (kk := ?_)
  refine aw_aload_n 0 (kk := ?_)
  refine aw_gA 10 1 278 (hw := wd_1156) (kk := fun v64 => ?_)
  refine aw_iconst 0 (v := 0) (kk := ?_)
  refine aw_lA 11 (kk := fun v65 => ?_)
  refine aw_pAF 10 20 196 (hw := wd_1175) (kk := fun σ66 => ?_)
  refine aw_aload_n 0 (kk := ?_)
  refine aw_aload_n 0 (kk := ?_)
  refine aw_gA 10 1 278 (hw := wd_1156) (kk := fun v67 => ?_)
  refine aw_iconst 1 (v := 1) (kk := ?_)
  refine aw_lA 11 (kk := fun v68 => ?_)
  refine aw_pAF 10 21 199 (hw := wd_1176) (kk := fun σ69 => ?_)
  refine aw_aload_n 0 (kk := ?_)
  refine aw_aload_n 0 (kk := ?_)
  refine aw_gA 10 1 278 (hw := wd_1156) (kk := fun v70 => ?_)
  refine aw_iconst 2 (v := 2) (kk := ?_)
  refine aw_lA 11 (kk := fun v71 => ?_)
  refine aw_pAF 10 22 202 (hw := wd_1177) (kk := fun σ72 => ?_)
  refine aw_aload_n 0 (kk := ?_)
  refine aw_new 11 130 (hw := wd_1100) (hw2 := wd_1102) (hw3 := wd_12) (kk := ?_)
  refine aw_dup (kk := ?_)
  refine ac_V (st := [.ref σ72.1, .ref x0]) [.ref σ72.1] (ag_IN 277 "MapMergerModel" wd_1103 cal_Ps_init wd_1104) cal_Ps_init ⟨by decide, by decide⟩ (Nat.le_of_ble_eq_true rfl) (m_Ps_init g F (am_no σ72 11) σ72.1) (fun σ73 => ?_)
  refine aw_pAF 10 23 170 (hw := wd_1178) (kk := fun σ74 => ?_)
  refine aw_aload_n 0 (kk := ?_)
  refine aw_new 11 130 (hw := wd_1100) (hw2 := wd_1102) (hw3 := wd_12) (kk := ?_)
  refine aw_dup (kk := ?_)
  refine ac_V (st := [.ref σ74.1, .ref x0]) [.ref σ74.1] (ag_IN 277 "MapMergerModel" wd_1103 cal_Ps_init wd_1104) cal_Ps_init ⟨by decide, by decide⟩ (Nat.le_of_ble_eq_true rfl) (m_Ps_init g F (am_no σ74 11) σ74.1) (fun σ75 => ?_)
  refine aw_pAF 10 24 247 (hw := wd_1179) (kk := fun σ76 => ?_)
  refine aw_aload_n 0 (kk := ?_)
  refine aw_sipush 1700 (v := 1700) (kk := ?_)
  refine aw_na2 .int (hw := wd_55) (kk := fun a77 σ78 => ?_)
  refine aw_pAF 10 25 224 (hw := wd_1180) (kk := fun σ79 => ?_)
  refine aw_aload_n 0 (kk := ?_)
  refine aw_sipush 1700 (v := 1700) (kk := ?_)
  refine aw_na2 .int (hw := wd_55) (kk := fun a80 σ81 => ?_)
  refine aw_pAF 10 26 234 (hw := wd_1181) (kk := fun σ82 => ?_)
  refine aw_aload_n 0 (kk := ?_)
  refine aw_sipush 1700 (v := 1700) (kk := ?_)
  refine aw_na2 .int (hw := wd_55) (kk := fun a83 σ84 => ?_)
  refine aw_pAF 10 27 227 (hw := wd_1182) (kk := fun σ85 => ?_)
  refine aw_aload_n 0 (kk := ?_)
  refine aw_sipush 1700 (v := 1700) (kk := ?_)
  refine aw_na2 .boolean (hw := wd_96) (kk := fun a86 σ87 => ?_)
  refine aw_pAF 10 28 237 (hw := wd_1183) (kk := fun σ88 => ?_)
  refine aw_aload_n 0 (kk := ?_)
  refine aw_sipush 1700 (v := 1700) (kk := ?_)
  refine aw_na2 .boolean (hw := wd_96) (kk := fun a89 σ90 => ?_)
  refine aw_pAF 10 29 240 (hw := wd_1184) (kk := fun σ91 => ?_)
  refine aw_aload_n 0 (kk := ?_)
  refine aw_new 12 8 (hw := wd_1144) (hw2 := wd_1108) (hw3 := wd_13) (kk := ?_)
  refine aw_dup (kk := ?_)
  refine aw_sipush 1024 (v := 1024) (kk := ?_)
  refine ac_V (st := [.ref σ91.1, .ref x0]) [.ref σ91.1, .int 1024] (ag_I 282 wd_1145 cal_Ro_init wd_1110) cal_Ro_init ⟨by decide, by decide⟩ (Nat.le_of_ble_eq_true rfl) (m_Ro_init g F (am_no σ91 12) σ91.1 1024) (fun σ92 => ?_)
  refine aw_pAF 10 30 151 (hw := wd_1185) (kk := fun σ93 => ?_)
  refine aw_aload_n 0 (kk := ?_)
  refine aw_new 12 8 (hw := wd_1144) (hw2 := wd_1108) (hw3 := wd_13) (kk := ?_)
  refine aw_dup (kk := ?_)
  refine aw_sipush 1024 (v := 1024) (kk := ?_)
  refine ac_V (st := [.ref σ93.1, .ref x0]) [.ref σ93.1, .int 1024] (ag_I 282 wd_1145 cal_Ro_init wd_1110) cal_Ro_init ⟨by decide, by decide⟩ (Nat.le_of_ble_eq_true rfl) (m_Ro_init g F (am_no σ93 12) σ93.1 1024) (fun σ94 => ?_)
  refine aw_pAF 10 31 212 (hw := wd_1186) (kk := fun σ95 => ?_)
  refine aw_aload_n 0 (kk := ?_)
  refine aw_sipush 1700 (v := 1700) (kk := ?_)
  refine aw_na2 .int (hw := wd_55) (kk := fun a96 σ97 => ?_)
  refine aw_pAF 10 32 154 (hw := wd_1187) (kk := fun σ98 => ?_)
  refine aw_aload_n 0 (kk := ?_)
  refine aw_sipush 1700 (v := 1700) (kk := ?_)
  refine aw_na2 .int (hw := wd_55) (kk := fun a99 σ100 => ?_)
  refine aw_pAF 10 34 193 (hw := wd_1189) (kk := fun σ101 => ?_)
  refine aw_aload_n 0 (kk := ?_)
  refine aw_sipush 1700 (v := 1700) (kk := ?_)
  refine aw_na2 .int (hw := wd_55) (kk := fun a102 σ103 => ?_)
  refine aw_pAF 10 35 187 (hw := wd_1190) (kk := fun σ104 => ?_)
  refine aw_aload_n 0 (kk := ?_)
  refine aw_sipush 1700 (v := 1700) (kk := ?_)
  refine aw_na2 .int (hw := wd_55) (kk := fun a105 σ106 => ?_)
  refine aw_pAF 10 36 190 (hw := wd_1191) (kk := fun σ107 => ?_)
  refine aw_aload_n 0 (kk := ?_)
  refine aw_new 11 130 (hw := wd_1100) (hw2 := wd_1102) (hw3 := wd_12) (kk := ?_)
  refine aw_dup (kk := ?_)
  refine ac_V (st := [.ref σ107.1, .ref x0]) [.ref σ107.1] (ag_IN 277 "MapMergerModel" wd_1103 cal_Ps_init wd_1104) cal_Ps_init ⟨by decide, by decide⟩ (Nat.le_of_ble_eq_true rfl) (m_Ps_init g F (am_no σ107 11) σ107.1) (fun σ108 => ?_)
  refine aw_pAF 10 37 290 (hw := wd_1192) (kk := fun σ109 => ?_)
  refine aw_aload_n 0 (kk := ?_)
  refine aw_new 11 130 (hw := wd_1100) (hw2 := wd_1102) (hw3 := wd_12) (kk := ?_)
  refine aw_dup (kk := ?_)
  refine ac_V (st := [.ref σ109.1, .ref x0]) [.ref σ109.1] (ag_IN 277 "MapMergerModel" wd_1103 cal_Ps_init wd_1104) cal_Ps_init ⟨by decide, by decide⟩ (Nat.le_of_ble_eq_true rfl) (m_Ps_init g F (am_no σ109 11) σ109.1) (fun σ110 => ?_)
  refine aw_pAF 10 38 293 (hw := wd_1193) (kk := fun σ111 => ?_)
  refine aw_aload_n 0 (kk := ?_)
  refine aw_new 12 8 (hw := wd_1144) (hw2 := wd_1108) (hw3 := wd_13) (kk := ?_)
  refine aw_dup (kk := ?_)
  refine aw_sipush 1024 (v := 1024) (kk := ?_)
  refine ac_V (st := [.ref σ111.1, .ref x0]) [.ref σ111.1, .int 1024] (ag_I 282 wd_1145 cal_Ro_init wd_1110) cal_Ro_init ⟨by decide, by decide⟩ (Nat.le_of_ble_eq_true rfl) (m_Ro_init g F (am_no σ111 12) σ111.1 1024) (fun σ112 => ?_)
  refine aw_pAF 10 39 296 (hw := wd_1194) (kk := fun σ113 => ?_)
  refine aw_aload_n 0 (kk := ?_)
  refine aw_sipush 1700 (v := 1700) (kk := ?_)
  refine aw_na2 .int (hw := wd_55) (kk := fun a114 σ115 => ?_)
  refine aw_pAF 10 40 299 (hw := wd_1195) (kk := fun σ116 => ?_)
  refine aw_aload_n 0 (kk := ?_)
  refine aw_sipush 1700 (v := 1700) (kk := ?_)
  refine aw_na2 .int (hw := wd_55) (kk := fun a117 σ118 => ?_)
  refine aw_pAF 10 41 302 (hw := wd_1196) (kk := fun σ119 => ?_)
  refine aw_aload_n 0 (kk := ?_)
  refine aw_gA 10 23 170 (hw := wd_1178) (kk := fun v120 => ?_)
  refine ac_V (st := []) [.ref v120] (ag_V 223 11 rc_Ps_clear wd_1147 cal_Ps_clear wd_1148 wd_1149) cal_Ps_clear ⟨by decide, by decide⟩ (Nat.le_of_ble_eq_true rfl) (m_Ps_clear g F σ119 v120) (fun σ121 => ?_)
  refine aw_aload_n 0 (kk := ?_)
  refine aw_gA 10 38 293 (hw := wd_1193) (kk := fun v122 => ?_)
  refine ac_V (st := []) [.ref v122] (ag_V 223 11 rc_Ps_clear wd_1147 cal_Ps_clear wd_1148 wd_1149) cal_Ps_clear ⟨by decide, by decide⟩ (Nat.le_of_ble_eq_true rfl) (m_Ps_clear g F σ121 v122) (fun σ123 => ?_)
  refine aw_aload_n 0 (kk := ?_)
  refine aw_gA 10 1 278 (hw := wd_1156) (kk := fun v124 => ?_)
  refine aw_astore_n 1 (kk := ?_)
  refine aw_aload_n 1 (kk := ?_)
  refine aw_len (kk := fun v125 => ?_)
  refine aw_istore_n 2 (kk := ?_)
  refine aw_iconst 0 (v := 0) (kk := ?_)
  refine aw_istore_n 3 (kk := ?_)
  exact am_W.drop [false, true, true, true, false] (b_Md_init_l499 F v124 v125 F 0 σ123)
def f_Md_thrown (F : Nat) (σ : am_S) (x0 : Nat) : Option (Int32) :=
  am_ck σ 10 x0 (
  (am_gI σ 10 0 x0).bind fun v1 =>
  some v1)
theorem rc_Md_thrown {F : Nat} {σ : am_S} {x0 : Nat} (h : (f_Md_thrown F σ x0).isSome = true) : ∃ fs, σ.2.2 x0 = some (.inr (10, fs)) := am_ck_some h
theorem m_Md_thrown (g : am_G) (F : Nat) (σ : am_S) (x0 : Nat) : am_Met g mx_Md_thrown [.ref x0] σ ((f_Md_thrown F σ x0).bind (am_kPI σ)) := by
  refine am_Met.of (lv := [some (.ref x0)]) (am_cc rfl am_c0) (Nat.le_of_ble_eq_true rfl) rfl (by decide) ?_
  unfold f_Md_thrown
  refine am_W.ck ?_
  refine aw_aload_n 0 (kk := ?_)
  refine aw_gI 10 0 269 (hw := wd_1155) (kk := fun v1 => ?_)
  exact aw_iretP
def f_Md_feed_l17 (F : Nat) (x0 : Nat) (k47 : Int32 → am_S → Option (am_S)) : Nat → Int32 → Int32 → am_S → Option (am_S)
  | 0, _, _, _ => none
  | n + 1, x6, x7, σ =>
    (am_gI σ 10 7 x0).bind fun v4 =>
    if v4 ≤ x7 then
      k47 x6 σ
    else
      (am_gA σ 10 6 x0).bind fun v5 =>
      (am_lA σ 12 v5 x7).bind fun v6 =>
      (am_gI σ 12 1 v6).bind fun v7 =>
      f_Md_feed_l17 F x0 k47 n (x6 + v7) (x7 + 1) σ
theorem b_Md_feed_l17 {g : am_G} {σ0 : am_S} (F : Nat) (x0 : Nat) (x1 : Int32) (x2 : Int32) (x3 : Int32) (x4 : Int32) (x5 : Int32) (k47 : Int32 → am_S → Option (am_S)) (h47 : ∀ (y6 : Int32)  (τ : am_S), am_W g mx_Md_feed σ0 47 [some (.ref x0), some (.int x1), some (.int x2), some (.int x3), some (.int x4), some (.int x5), some (.int y6), none] [] τ (k47 y6 τ) am_kV) : ∀ (n : Nat) (x6 : Int32) (x7 : Int32) (σ : am_S), am_W g mx_Md_feed σ0 17 [some (.ref x0), some (.int x1), some (.int x2), some (.int x3), some (.int x4), some (.int x5), some (.int x6), some (.int x7)] [] σ (f_Md_feed_l17 F x0 k47 n x6 x7 σ) am_kV := by
  intro n
  induction n with
  | zero =>
    intro x6 x7 σ
    rw [f_Md_feed_l17]
    exact am_W.none
  | succ n ih =>
    intro x6 x7 σ
    rw [f_Md_feed_l17]
    refine aw_iload 7 (kk := ?_)
    refine aw_aload_n 0 (kk := ?_)
    refine aw_gI 10 7 266 (hw := wd_1162) (kk := fun v4 => ?_)
    refine aw_icmp_ge 24 47 (kt := fun _ => ?_) (kf := fun _ => ?_)
    · exact am_W.drop [true, true, true, true, true, true, true, false] (h47 x6 σ)
    · refine aw_iload 6 (kk := ?_)
      refine aw_aload_n 0 (kk := ?_)
      refine aw_gA 10 6 287 (hw := wd_1161) (kk := fun v5 => ?_)
      refine aw_iload 7 (kk := ?_)
      refine aw_lA 12 (kk := fun v6 => ?_)
      refine aw_gI 12 1 7 (hw := wd_1116) (kk := fun v7 => ?_)
      refine aw_iadd (kk := ?_)
      refine aw_istore 6 (kk := ?_)
      refine aw_iinc 7 1 (v := 1) (kk := ?_)
      refine aw_goto (-27) 17 (kk := ?_)
      exact am_W.drop [true, true, true, true, true, true, true, true] (ih (x6 + v7) (x7 + 1) σ)
def f_Md_feed_j47 (F : Nat) (x0 : Nat) (x1 : Int32) (x2 : Int32) (x3 : Int32) (x4 : Int32) (x5 : Int32) (x6 : Int32)  (σ : am_S) : Option (am_S) :=
  if (x6 + 20) ≤ 16384 then
    (am_gA σ 10 5 x0).bind fun v8 =>
    am_b2 (f_Ro_four F σ v8 x1) fun v9 σ10 =>
    am_b2 (f_Ro_four F σ10 v9 x2) fun v11 σ12 =>
    am_b2 (f_Ro_four F σ12 v11 x3) fun v13 σ14 =>
    am_b2 (f_Ro_four F σ14 v13 x4) fun v15 σ16 =>
    am_b2 (f_Ro_four F σ16 v15 x5) fun v17 σ18 =>
    some σ18
  else
    am_b2 (f_Md_bad F σ x0) fun v19 σ20 =>
    some σ20
theorem b_Md_feed_j47 {g : am_G} {σ0 : am_S} (F : Nat) (x0 : Nat) (x1 : Int32) (x2 : Int32) (x3 : Int32) (x4 : Int32) (x5 : Int32) (x6 : Int32)   (σ : am_S) : am_W g mx_Md_feed σ0 47 [some (.ref x0), some (.int x1), some (.int x2), some (.int x3), some (.int x4), some (.int x5), some (.int x6), none] [] σ (f_Md_feed_j47 F x0 x1 x2 x3 x4 x5 x6 σ) am_kV := by
  unfold f_Md_feed_j47
  refine aw_iload 6 (kk := ?_)
  refine aw_bipush 20 (v := 20) (kk := ?_)
  refine aw_iadd (kk := ?_)
  refine aw_sipush 16384 (v := 16384) (kk := ?_)
  refine aw_icmp_le 11 66 (kt := fun _ => ?_) (kf := fun _ => ?_)
  · refine aw_aload_n 0 (kk := ?_)
    refine aw_gA 10 5 284 (hw := wd_1160) (kk := fun v8 => ?_)
    refine aw_iload_n 1 (kk := ?_)
    refine ac_A (st := []) [.ref v8, .int x1] (ag_V 309 12 rc_Ro_four wd_1295 cal_Ro_four wd_1296 wd_1297) cal_Ro_four ⟨by decide, by decide⟩ (Nat.le_of_ble_eq_true rfl) (m_Ro_four g F σ v8 x1) (fun v9 σ10 => ?_)
    refine aw_iload_n 2 (kk := ?_)
    refine ac_A (st := []) [.ref v9, .int x2] (ag_V 309 12 rc_Ro_four wd_1295 cal_Ro_four wd_1296 wd_1297) cal_Ro_four ⟨by decide, by decide⟩ (Nat.le_of_ble_eq_true rfl) (m_Ro_four g F σ10 v9 x2) (fun v11 σ12 => ?_)
    refine aw_iload_n 3 (kk := ?_)
    refine ac_A (st := []) [.ref v11, .int x3] (ag_V 309 12 rc_Ro_four wd_1295 cal_Ro_four wd_1296 wd_1297) cal_Ro_four ⟨by decide, by decide⟩ (Nat.le_of_ble_eq_true rfl) (m_Ro_four g F σ12 v11 x3) (fun v13 σ14 => ?_)
    refine aw_iload 4 (kk := ?_)
    refine ac_A (st := []) [.ref v13, .int x4] (ag_V 309 12 rc_Ro_four wd_1295 cal_Ro_four wd_1296 wd_1297) cal_Ro_four ⟨by decide, by decide⟩ (Nat.le_of_ble_eq_true rfl) (m_Ro_four g F σ14 v13 x4) (fun v15 σ16 => ?_)
    refine aw_iload 5 (kk := ?_)
    refine ac_A (st := []) [.ref v15, .int x5] (ag_V 309 12 rc_Ro_four wd_1295 cal_Ro_four wd_1296 wd_1297) cal_Ro_four ⟨by decide, by decide⟩ (Nat.le_of_ble_eq_true rfl) (m_Ro_four g F σ16 v15 x5) (fun v17 σ18 => ?_)
    refine aw_pop (kk := ?_)
    exact aw_vret
  · refine aw_aload_n 0 (kk := ?_)
    refine ac_I (st := []) [.ref x0] (ag_V 305 10 rc_Md_bad wd_1291 cal_Md_bad wd_1293 ws_42) cal_Md_bad ⟨by decide, by decide⟩ (Nat.le_of_ble_eq_true rfl) (m_Md_bad g F σ x0) (fun v19 σ20 => ?_)
    refine aw_pop (kk := ?_)
    refine aw_goto 30 93 (kk := ?_)
    exact aw_vret
def f_Md_feed (F : Nat) (σ : am_S) (x0 : Nat) (x1 : Int32) (x2 : Int32) (x3 : Int32) (x4 : Int32) (x5 : Int32) : Option (am_S) :=
  am_ck σ 10 x0 (
  (am_pI σ 10 0 x0 0).bind fun σ1 =>
  (am_gA σ1 10 5 x0).bind fun v2 =>
  (am_gI σ1 12 1 v2).bind fun v3 =>
  f_Md_feed_l17 F x0 (fun y6 τ => f_Md_feed_j47 F x0 x1 x2 x3 x4 x5 y6 τ) F v3 0 σ1)
theorem rc_Md_feed {F : Nat} {σ : am_S} {x0 : Nat} {x1 : Int32} {x2 : Int32} {x3 : Int32} {x4 : Int32} {x5 : Int32} (h : (f_Md_feed F σ x0 x1 x2 x3 x4 x5).isSome = true) : ∃ fs, σ.2.2 x0 = some (.inr (10, fs)) := am_ck_some h
theorem m_Md_feed (g : am_G) (F : Nat) (σ : am_S) (x0 : Nat) (x1 : Int32) (x2 : Int32) (x3 : Int32) (x4 : Int32) (x5 : Int32) : am_Met g mx_Md_feed [.ref x0, .int x1, .int x2, .int x3, .int x4, .int x5] σ ((f_Md_feed F σ x0 x1 x2 x3 x4 x5).bind am_kV) := by
  refine am_Met.of (lv := [some (.ref x0), some (.int x1), some (.int x2), some (.int x3), some (.int x4), some (.int x5), none, none]) (am_cc rfl (am_cc rfl (am_cc rfl (am_cc rfl (am_cc rfl (am_cc rfl am_c0)))))) (Nat.le_of_ble_eq_true rfl) rfl (by decide) ?_
  unfold f_Md_feed
  refine am_W.ck ?_
  refine aw_aload_n 0 (kk := ?_)
  refine aw_iconst 0 (v := 0) (kk := ?_)
  refine aw_pI 10 0 269 (hw := wd_1155) (kk := fun σ1 => ?_)
  refine aw_aload_n 0 (kk := ?_)
  refine aw_gA 10 5 284 (hw := wd_1160) (kk := fun v2 => ?_)
  refine aw_gI 12 1 7 (hw := wd_1116) (kk := fun v3 => ?_)
  refine aw_istore 6 (kk := ?_)
  refine aw_iconst 0 (v := 0) (kk := ?_)
  refine aw_istore 7 (kk := ?_)
  exact am_W.drop [true, true, true, true, true, true, true, true] (b_Md_feed_l17 F x0 x1 x2 x3 x4 x5 (fun y6 τ => f_Md_feed_j47 F x0 x1 x2 x3 x4 x5 y6 τ) (fun y6 τ => am_W.drop [true, true, true, true, true, true, true, false] (b_Md_feed_j47 F x0 x1 x2 x3 x4 x5 y6 τ)) F v3 0 σ1)
def f_Md_end_j26 (F : Nat) (x0 : Nat)  (σ : am_S) : Option (Int32 × am_S) :=
  am_b2 (f_Md_bad F σ x0) fun v2 σ3 =>
  some (v2, σ3)
theorem b_Md_end_j26 {g : am_G} {σ0 : am_S} (F : Nat) (x0 : Nat)   (σ : am_S) : am_W g mx_Md_end σ0 26 [some (.ref x0), none, none, none] [] σ (f_Md_end_j26 F x0 σ) am_kI := by
  unfold f_Md_end_j26
  refine aw_aload_n 0 (kk := ?_)
  refine ac_I (st := []) [.ref x0] (ag_V 305 10 rc_Md_bad wd_1291 cal_Md_bad wd_1293 ws_42) cal_Md_bad ⟨by decide, by decide⟩ (Nat.le_of_ble_eq_true rfl) (m_Md_bad g F σ x0) (fun v2 σ3 => ?_)
  exact aw_iret
def f_Md_end_j98 (F : Nat) (x0 : Nat)  (σ : am_S) : Option (Int32 × am_S) :=
  (am_gA σ 10 6 x0).bind fun v10 =>
  (am_gI σ 10 7 x0).bind fun v11 =>
  (am_lA σ 12 v10 v11).bind fun v12 =>
  (am_gA σ 10 5 x0).bind fun v13 =>
  am_b2 (f_Ro_set F σ v12 v13) fun v14 σ15 =>
  (am_gI σ15 10 7 x0).bind fun v16 =>
  (am_pI σ15 10 7 x0 (v16 + 1)).bind fun σ17 =>
  (am_gA σ17 10 5 x0).bind fun v18 =>
  (f_Ro_clear F σ17 v18).bind fun σ19 =>
  (am_gI σ19 10 7 x0).bind fun v20 =>
  some (v20, σ19)
theorem b_Md_end_j98 {g : am_G} {σ0 : am_S} (F : Nat) (x0 : Nat)   (σ : am_S) : am_W g mx_Md_end σ0 98 [some (.ref x0), none, none, none] [] σ (f_Md_end_j98 F x0 σ) am_kI := by
  unfold f_Md_end_j98
  refine aw_aload_n 0 (kk := ?_)
  refine aw_gA 10 6 287 (hw := wd_1161) (kk := fun v10 => ?_)
  refine aw_aload_n 0 (kk := ?_)
  refine aw_gI 10 7 266 (hw := wd_1162) (kk := fun v11 => ?_)
  refine aw_lA 12 (kk := fun v12 => ?_)
  refine aw_aload_n 0 (kk := ?_)
  refine aw_gA 10 5 284 (hw := wd_1160) (kk := fun v13 => ?_)
  refine ac_A (st := []) [.ref v12, .ref v13] (ag_V 112 12 rc_Ro_set wd_1307 cal_Ro_set wd_1308 wd_1309) cal_Ro_set ⟨by decide, by decide⟩ (Nat.le_of_ble_eq_true rfl) (m_Ro_set g F σ v12 v13) (fun v14 σ15 => ?_)
  refine aw_pop (kk := ?_)
  refine aw_aload_n 0 (kk := ?_)
  refine aw_dup (kk := ?_)
  refine aw_gI 10 7 266 (hw := wd_1162) (kk := fun v16 => ?_)
  refine aw_iconst 1 (v := 1) (kk := ?_)
  refine aw_iadd (kk := ?_)
  refine aw_pI 10 7 266 (hw := wd_1162) (kk := fun σ17 => ?_)
  refine aw_aload_n 0 (kk := ?_)
  refine aw_gA 10 5 284 (hw := wd_1160) (kk := fun v18 => ?_)
  refine ac_V (st := []) [.ref v18] (ag_V 93 12 rc_Ro_clear wd_1320 cal_Ro_clear wd_1152 wd_1153) cal_Ro_clear ⟨by decide, by decide⟩ (Nat.le_of_ble_eq_true rfl) (m_Ro_clear g F σ17 v18) (fun σ19 => ?_)
  refine aw_aload_n 0 (kk := ?_)
  refine aw_gI 10 7 266 (hw := wd_1162) (kk := fun v20 => ?_)
  exact aw_iret
def f_Md_end_l61 (F : Nat) (x0 : Nat) (k86 : am_S → Option (Int32 × am_S)) : Nat → Int32 → am_S → Option (Int32 × am_S)
  | 0, _, _ => none
  | n + 1, x3, σ =>
    if 3 ≤ x3 then
      k86 σ
    else
      (am_gA σ 10 6 x0).bind fun v23 =>
      (am_gA σ 10 6 x0).bind fun v24 =>
      (am_lA σ 12 v24 (x3 + 1)).bind fun v25 =>
      (am_sA σ 12 v23 x3 v25).bind fun σ26 =>
      f_Md_end_l61 F x0 k86 n (x3 + 1) σ26
theorem b_Md_end_l61 {g : am_G} {σ0 : am_S} (F : Nat) (x0 : Nat) (x2 : Nat) (k86 : am_S → Option (Int32 × am_S)) (h86 : ∀ (τ : am_S), am_W g mx_Md_end σ0 86 [some (.ref x0), none, some (.ref x2), none] [] τ (k86 τ) am_kI) : ∀ (n : Nat) (x3 : Int32) (σ : am_S), am_W g mx_Md_end σ0 61 [some (.ref x0), none, some (.ref x2), some (.int x3)] [] σ (f_Md_end_l61 F x0 k86 n x3 σ) am_kI := by
  intro n
  induction n with
  | zero =>
    intro x3 σ
    rw [f_Md_end_l61]
    exact am_W.none
  | succ n ih =>
    intro x3 σ
    rw [f_Md_end_l61]
    refine aw_iload_n 3 (kk := ?_)
    refine aw_iconst 3 (v := 3) (kk := ?_)
    refine aw_icmp_ge 23 86 (kt := fun _ => ?_) (kf := fun _ => ?_)
    · exact am_W.drop [true, false, true, false] (h86 σ)
    · refine aw_aload_n 0 (kk := ?_)
      refine aw_gA 10 6 287 (hw := wd_1161) (kk := fun v23 => ?_)
      refine aw_iload_n 3 (kk := ?_)
      refine aw_aload_n 0 (kk := ?_)
      refine aw_gA 10 6 287 (hw := wd_1161) (kk := fun v24 => ?_)
      refine aw_iload_n 3 (kk := ?_)
      refine aw_iconst 1 (v := 1) (kk := ?_)
      refine aw_iadd (kk := ?_)
      refine aw_lA 12 (kk := fun v25 => ?_)
      refine aw_sA 12 (kk := fun σ26 => ?_)
      refine aw_iinc 3 1 (v := 1) (kk := ?_)
      refine aw_goto (-22) 61 (kk := ?_)
      exact am_W.drop [true, false, true, true] (ih (x3 + 1) σ26)
def f_Md_end_j86 (F : Nat) (x0 : Nat) (x2 : Nat)  (σ : am_S) : Option (Int32 × am_S) :=
  (am_gA σ 10 6 x0).bind fun v27 =>
  (am_sA σ 12 v27 3 x2).bind fun σ28 =>
  (am_pI σ28 10 7 x0 3).bind fun σ29 =>
  f_Md_end_j98 F x0 σ29
theorem b_Md_end_j86 {g : am_G} {σ0 : am_S} (F : Nat) (x0 : Nat) (x2 : Nat)   (σ : am_S) : am_W g mx_Md_end σ0 86 [some (.ref x0), none, some (.ref x2), none] [] σ (f_Md_end_j86 F x0 x2 σ) am_kI := by
  unfold f_Md_end_j86
  refine aw_aload_n 0 (kk := ?_)
  refine aw_gA 10 6 287 (hw := wd_1161) (kk := fun v27 => ?_)
  refine aw_iconst 3 (v := 3) (kk := ?_)
  refine aw_aload_n 2 (kk := ?_)
  refine aw_sA 12 (kk := fun σ28 => ?_)
  refine aw_aload_n 0 (kk := ?_)
  refine aw_iconst 3 (v := 3) (kk := ?_)
  refine aw_pI 10 7 266 (hw := wd_1162) (kk := fun σ29 => ?_)
  exact am_W.drop [true, false, false, false] (b_Md_end_j98 F x0 σ29)
def f_Md_end (F : Nat) (σ : am_S) (x0 : Nat) (x1 : Int32) : Option (Int32 × am_S) :=
  am_ck σ 10 x0 (
  (am_pI σ 10 0 x0 0).bind fun σ1 =>
  if x1 < 0 then
    f_Md_end_j26 F x0 σ1
  else
    if 19 < x1 then
      f_Md_end_j26 F x0 σ1
    else
      (am_gA σ1 10 5 x0).bind fun v4 =>
      (am_gI σ1 12 1 v4).bind fun v5 =>
      if x1 ≤ v5 then
        (am_gA σ1 10 5 x0).bind fun v6 =>
        (am_gI σ1 12 1 v6).bind fun v7 =>
        (am_pI σ1 12 1 v6 (v7 - x1)).bind fun σ8 =>
        (am_gI σ8 10 7 x0).bind fun v9 =>
        if v9 = 4 then
          (am_gA σ8 10 6 x0).bind fun v21 =>
          (am_lA σ8 12 v21 0).bind fun v22 =>
          f_Md_end_l61 F x0 (fun τ => f_Md_end_j86 F x0 v22 τ) F 0 σ8
        else
          f_Md_end_j98 F x0 σ8
      else
        f_Md_end_j26 F x0 σ1)
theorem rc_Md_end {F : Nat} {σ : am_S} {x0 : Nat} {x1 : Int32} (h : (f_Md_end F σ x0 x1).isSome = true) : ∃ fs, σ.2.2 x0 = some (.inr (10, fs)) := am_ck_some h
theorem m_Md_end (g : am_G) (F : Nat) (σ : am_S) (x0 : Nat) (x1 : Int32) : am_Met g mx_Md_end [.ref x0, .int x1] σ ((f_Md_end F σ x0 x1).bind am_kI) := by
  refine am_Met.of (lv := [some (.ref x0), some (.int x1), none, none]) (am_cc rfl (am_cc rfl am_c0)) (Nat.le_of_ble_eq_true rfl) rfl (by decide) ?_
  unfold f_Md_end
  refine am_W.ck ?_
  refine aw_aload_n 0 (kk := ?_)
  refine aw_iconst 0 (v := 0) (kk := ?_)
  refine aw_pI 10 0 269 (hw := wd_1155) (kk := fun σ1 => ?_)
  refine aw_iload_n 1 (kk := ?_)
  refine aw_if_lt 20 26 (kt := fun _ => ?_) (kf := fun _ => ?_)
  · exact am_W.drop [true, false, false, false] (b_Md_end_j26 F x0 σ1)
  · refine aw_iload_n 1 (kk := ?_)
    refine aw_bipush 19 (v := 19) (kk := ?_)
    refine aw_icmp_gt 14 26 (kt := fun _ => ?_) (kf := fun _ => ?_)
    · exact am_W.drop [true, false, false, false] (b_Md_end_j26 F x0 σ1)
    · refine aw_iload_n 1 (kk := ?_)
      refine aw_aload_n 0 (kk := ?_)
      refine aw_gA 10 5 284 (hw := wd_1160) (kk := fun v4 => ?_)
      refine aw_gI 12 1 7 (hw := wd_1116) (kk := fun v5 => ?_)
      refine aw_icmp_le 8 31 (kt := fun _ => ?_) (kf := fun _ => ?_)
      · refine aw_aload_n 0 (kk := ?_)
        refine aw_gA 10 5 284 (hw := wd_1160) (kk := fun v6 => ?_)
        refine aw_dup (kk := ?_)
        refine aw_gI 12 1 7 (hw := wd_1116) (kk := fun v7 => ?_)
        refine aw_iload_n 1 (kk := ?_)
        refine aw_isub (kk := ?_)
        refine aw_pI 12 1 7 (hw := wd_1116) (kk := fun σ8 => ?_)
        refine aw_aload_n 0 (kk := ?_)
        refine aw_gI 10 7 266 (hw := wd_1162) (kk := fun v9 => ?_)
        refine aw_iconst 4 (v := 4) (kk := ?_)
        refine aw_icmp_ne 49 98 (kt := fun _ => ?_) (kf := fun _ => ?_)
        · exact am_W.drop [true, false, false, false] (b_Md_end_j98 F x0 σ8)
        · refine aw_aload_n 0 (kk := ?_)
          refine aw_gA 10 6 287 (hw := wd_1161) (kk := fun v21 => ?_)
          refine aw_iconst 0 (v := 0) (kk := ?_)
          refine aw_lA 12 (kk := fun v22 => ?_)
          refine aw_astore_n 2 (kk := ?_)
          refine aw_iconst 0 (v := 0) (kk := ?_)
          refine aw_istore_n 3 (kk := ?_)
          exact am_W.drop [true, false, true, true] (b_Md_end_l61 F x0 v22 (fun τ => f_Md_end_j86 F x0 v22 τ) (fun τ => am_W.drop [true, false, true, false] (b_Md_end_j86 F x0 v22 τ)) F 0 σ8)
      · exact am_W.drop [true, false, false, false] (b_Md_end_j26 F x0 σ1)
def f_Md_rebuild_l10 (F : Nat) (x0 : Nat) (x1 : Nat) (x2 : Nat) (k45 : Int32 → am_S → Option (am_S)) : Nat → Int32 → am_S → Option (am_S)
  | 0, _, _ => none
  | n + 1, x4, σ =>
    (am_gI σ 11 4 x1).bind fun v3 =>
    if v3 ≤ x4 then
      k45 x4 σ
    else
      (f_Ps_compareb F σ x1 x4 x2).bind fun v4 =>
      if 0 ≤ v4 then
        k45 x4 σ
      else
        (am_gA σ 10 37 x0).bind fun v5 =>
        (f_Ps_take F σ v5 x1 x4).bind fun σ6 =>
        f_Md_rebuild_l10 F x0 x1 x2 k45 n (x4 + 1) σ6
theorem b_Md_rebuild_l10 {g : am_G} {σ0 : am_S} (F : Nat) (x0 : Nat) (x1 : Nat) (x2 : Nat) (x3 : Int32) (k45 : Int32 → am_S → Option (am_S)) (h45 : ∀ (y4 : Int32)  (τ : am_S), am_W g mx_Md_rebuild σ0 45 [some (.ref x0), some (.ref x1), some (.ref x2), some (.int x3), some (.int y4)] [] τ (k45 y4 τ) am_kV) : ∀ (n : Nat) (x4 : Int32) (σ : am_S), am_W g mx_Md_rebuild σ0 10 [some (.ref x0), some (.ref x1), some (.ref x2), some (.int x3), some (.int x4)] [] σ (f_Md_rebuild_l10 F x0 x1 x2 k45 n x4 σ) am_kV := by
  intro n
  induction n with
  | zero =>
    intro x4 σ
    rw [f_Md_rebuild_l10]
    exact am_W.none
  | succ n ih =>
    intro x4 σ
    rw [f_Md_rebuild_l10]
    refine aw_iload 4 (kk := ?_)
    refine aw_aload_n 1 (kk := ?_)
    refine aw_gI 11 4 129 (hw := wd_1132) (kk := fun v3 => ?_)
    refine aw_icmp_ge 29 45 (kt := fun _ => ?_) (kf := fun _ => ?_)
    · exact am_W.drop [true, true, true, true, true] (h45 x4 σ)
    · refine aw_aload_n 1 (kk := ?_)
      refine aw_iload 4 (kk := ?_)
      refine aw_aload_n 2 (kk := ?_)
      refine ac_PI (st := []) [.ref x1, .int x4, .ref x2] (ag_V 312 11 rc_Ps_compareb wd_1353 cal_Ps_compareb wd_1354 wd_1355) cal_Ps_compareb ⟨by decide, by decide⟩ (Nat.le_of_ble_eq_true rfl) (m_Ps_compareb g F σ x1 x4 x2) (fun v4 => ?_)
      refine aw_if_ge 19 45 (kt := fun _ => ?_) (kf := fun _ => ?_)
      · exact am_W.drop [true, true, true, true, true] (h45 x4 σ)
      · refine aw_aload_n 0 (kk := ?_)
        refine aw_gA 10 37 290 (hw := wd_1192) (kk := fun v5 => ?_)
        refine aw_aload_n 1 (kk := ?_)
        refine aw_iload 4 (kk := ?_)
        refine ac_V (st := []) [.ref v5, .ref x1, .int x4] (ag_V 250 11 rc_Ps_take wd_1362 cal_Ps_take wd_1363 wd_1364) cal_Ps_take ⟨by decide, by decide⟩ (Nat.le_of_ble_eq_true rfl) (m_Ps_take g F σ v5 x1 x4) (fun σ6 => ?_)
        refine aw_iinc 4 1 (v := 1) (kk := ?_)
        refine aw_goto (-32) 10 (kk := ?_)
        exact am_W.drop [true, true, true, true, true] (ih (x4 + 1) σ6)
def f_Md_rebuild_l95 (F : Nat) (x0 : Nat) (x1 : Nat)  : Nat → Int32 → am_S → Option (am_S)
  | 0, _, _ => none
  | n + 1, x4, σ =>
    (am_gI σ 11 4 x1).bind fun v8 =>
    if v8 ≤ x4 then
      some σ
    else
      (am_gA σ 10 37 x0).bind fun v9 =>
      (f_Ps_take F σ v9 x1 x4).bind fun σ10 =>
      f_Md_rebuild_l95 F x0 x1 n (x4 + 1) σ10
theorem b_Md_rebuild_l95 {g : am_G} {σ0 : am_S} (F : Nat) (x0 : Nat) (x1 : Nat)   : ∀ (n : Nat) (x4 : Int32) (σ : am_S), am_W g mx_Md_rebuild σ0 95 [some (.ref x0), some (.ref x1), none, none, some (.int x4)] [] σ (f_Md_rebuild_l95 F x0 x1 n x4 σ) am_kV := by
  intro n
  induction n with
  | zero =>
    intro x4 σ
    rw [f_Md_rebuild_l95]
    exact am_W.none
  | succ n ih =>
    intro x4 σ
    rw [f_Md_rebuild_l95]
    refine aw_iload 4 (kk := ?_)
    refine aw_aload_n 1 (kk := ?_)
    refine aw_gI 11 4 129 (hw := wd_1132) (kk := fun v8 => ?_)
    refine aw_icmp_ge 19 120 (kt := fun _ => ?_) (kf := fun _ => ?_)
    · exact aw_vret
    · refine aw_aload_n 0 (kk := ?_)
      refine aw_gA 10 37 290 (hw := wd_1192) (kk := fun v9 => ?_)
      refine aw_aload_n 1 (kk := ?_)
      refine aw_iload 4 (kk := ?_)
      refine ac_V (st := []) [.ref v9, .ref x1, .int x4] (ag_V 250 11 rc_Ps_take wd_1362 cal_Ps_take wd_1363 wd_1364) cal_Ps_take ⟨by decide, by decide⟩ (Nat.le_of_ble_eq_true rfl) (m_Ps_take g F σ v9 x1 x4) (fun σ10 => ?_)
      refine aw_iinc 4 1 (v := 1) (kk := ?_)
      refine aw_goto (-22) 95 (kk := ?_)
      exact am_W.drop [true, true, false, false, true] (ih (x4 + 1) σ10)
def f_Md_rebuild_j73 (F : Nat) (x0 : Nat) (x1 : Nat) (x2 : Nat) (x4 : Int32)  (σ : am_S) : Option (am_S) :=
  (am_gI σ 11 4 x1).bind fun v7 =>
  if v7 ≤ x4 then
    f_Md_rebuild_l95 F x0 x1 F x4 σ
  else
    (f_Ps_compareb F σ x1 x4 x2).bind fun v11 =>
    if v11 = 0 then
      f_Md_rebuild_l95 F x0 x1 F (x4 + 1) σ
    else
      f_Md_rebuild_l95 F x0 x1 F x4 σ
theorem b_Md_rebuild_j73 {g : am_G} {σ0 : am_S} (F : Nat) (x0 : Nat) (x1 : Nat) (x2 : Nat) (x4 : Int32)   (σ : am_S) : am_W g mx_Md_rebuild σ0 73 [some (.ref x0), some (.ref x1), some (.ref x2), none, some (.int x4)] [] σ (f_Md_rebuild_j73 F x0 x1 x2 x4 σ) am_kV := by
  unfold f_Md_rebuild_j73
  refine aw_iload 4 (kk := ?_)
  refine aw_aload_n 1 (kk := ?_)
  refine aw_gI 11 4 129 (hw := wd_1132) (kk := fun v7 => ?_)
  refine aw_icmp_ge 16 95 (kt := fun _ => ?_) (kf := fun _ => ?_)
  · exact am_W.drop [true, true, false, false, true] (b_Md_rebuild_l95 F x0 x1 F x4 σ)
  · refine aw_aload_n 1 (kk := ?_)
    refine aw_iload 4 (kk := ?_)
    refine aw_aload_n 2 (kk := ?_)
    refine ac_PI (st := []) [.ref x1, .int x4, .ref x2] (ag_V 312 11 rc_Ps_compareb wd_1353 cal_Ps_compareb wd_1354 wd_1355) cal_Ps_compareb ⟨by decide, by decide⟩ (Nat.le_of_ble_eq_true rfl) (m_Ps_compareb g F σ x1 x4 x2) (fun v11 => ?_)
    refine aw_if_ne 6 95 (kt := fun _ => ?_) (kf := fun _ => ?_)
    · exact am_W.drop [true, true, false, false, true] (b_Md_rebuild_l95 F x0 x1 F x4 σ)
    · refine aw_iinc 4 1 (v := 1) (kk := ?_)
      exact am_W.drop [true, true, false, false, true] (b_Md_rebuild_l95 F x0 x1 F (x4 + 1) σ)
def f_Md_rebuild_j45 (F : Nat) (x0 : Nat) (x1 : Nat) (x2 : Nat) (x3 : Int32) (x4 : Int32)  (σ : am_S) : Option (am_S) :=
  if x3 < 0 then
    f_Md_rebuild_j73 F x0 x1 x2 x4 σ
  else
    (am_gA σ 10 37 x0).bind fun v12 =>
    (am_gA σ 11 2 v12).bind fun v13 =>
    (am_gA σ 10 37 x0).bind fun v14 =>
    (am_gI σ 12 1 x2).bind fun v15 =>
    am_b2 (f_Ps_add F σ v14 x2 0 v15) fun v16 σ17 =>
    (am_sI σ17 v13 (3 * v16) x3).bind fun σ18 =>
    f_Md_rebuild_j73 F x0 x1 x2 x4 σ18
theorem b_Md_rebuild_j45 {g : am_G} {σ0 : am_S} (F : Nat) (x0 : Nat) (x1 : Nat) (x2 : Nat) (x3 : Int32) (x4 : Int32)   (σ : am_S) : am_W g mx_Md_rebuild σ0 45 [some (.ref x0), some (.ref x1), some (.ref x2), some (.int x3), some (.int x4)] [] σ (f_Md_rebuild_j45 F x0 x1 x2 x3 x4 σ) am_kV := by
  unfold f_Md_rebuild_j45
  refine aw_iload_n 3 (kk := ?_)
  refine aw_if_lt 27 73 (kt := fun _ => ?_) (kf := fun _ => ?_)
  · exact am_W.drop [true, true, true, false, true] (b_Md_rebuild_j73 F x0 x1 x2 x4 σ)
  · refine aw_aload_n 0 (kk := ?_)
    refine aw_gA 10 37 290 (hw := wd_1192) (kk := fun v12 => ?_)
    refine aw_gA 11 2 142 (hw := wd_1128) (kk := fun v13 => ?_)
    refine aw_iconst 3 (v := 3) (kk := ?_)
    refine aw_aload_n 0 (kk := ?_)
    refine aw_gA 10 37 290 (hw := wd_1192) (kk := fun v14 => ?_)
    refine aw_aload_n 2 (kk := ?_)
    refine aw_iconst 0 (v := 0) (kk := ?_)
    refine aw_aload_n 2 (kk := ?_)
    refine aw_gI 12 1 7 (hw := wd_1116) (kk := fun v15 => ?_)
    refine ac_I (st := [.int 3, .ref v13]) [.ref v14, .ref x2, .int 0, .int v15] (ag_V 180 11 rc_Ps_add wd_1371 cal_Ps_add wd_1367 wd_1368) cal_Ps_add ⟨by decide, by decide⟩ (Nat.le_of_ble_eq_true rfl) (m_Ps_add g F σ v14 x2 0 v15) (fun v16 σ17 => ?_)
    refine aw_imul (kk := ?_)
    refine aw_iload_n 3 (kk := ?_)
    refine aw_sI (kk := fun σ18 => ?_)
    exact am_W.drop [true, true, true, false, true] (b_Md_rebuild_j73 F x0 x1 x2 x4 σ18)
def f_Md_rebuild (F : Nat) (σ : am_S) (x0 : Nat) (x1 : Nat) (x2 : Nat) (x3 : Int32) : Option (am_S) :=
  am_ck σ 10 x0 (
  (am_gA σ 10 37 x0).bind fun v1 =>
  (f_Ps_clear F σ v1).bind fun σ2 =>
  f_Md_rebuild_l10 F x0 x1 x2 (fun y4 τ => f_Md_rebuild_j45 F x0 x1 x2 x3 y4 τ) F 0 σ2)
theorem rc_Md_rebuild {F : Nat} {σ : am_S} {x0 : Nat} {x1 : Nat} {x2 : Nat} {x3 : Int32} (h : (f_Md_rebuild F σ x0 x1 x2 x3).isSome = true) : ∃ fs, σ.2.2 x0 = some (.inr (10, fs)) := am_ck_some h
theorem m_Md_rebuild (g : am_G) (F : Nat) (σ : am_S) (x0 : Nat) (x1 : Nat) (x2 : Nat) (x3 : Int32) : am_Met g mx_Md_rebuild [.ref x0, .ref x1, .ref x2, .int x3] σ ((f_Md_rebuild F σ x0 x1 x2 x3).bind am_kV) := by
  refine am_Met.of (lv := [some (.ref x0), some (.ref x1), some (.ref x2), some (.int x3), none]) (am_cc rfl (am_cc rfl (am_cc rfl (am_cc rfl am_c0)))) (Nat.le_of_ble_eq_true rfl) rfl (by decide) ?_
  unfold f_Md_rebuild
  refine am_W.ck ?_
  refine aw_aload_n 0 (kk := ?_)
  refine aw_gA 10 37 290 (hw := wd_1192) (kk := fun v1 => ?_)
  refine ac_V (st := []) [.ref v1] (ag_V 223 11 rc_Ps_clear wd_1147 cal_Ps_clear wd_1148 wd_1149) cal_Ps_clear ⟨by decide, by decide⟩ (Nat.le_of_ble_eq_true rfl) (m_Ps_clear g F σ v1) (fun σ2 => ?_)
  refine aw_iconst 0 (v := 0) (kk := ?_)
  refine aw_istore 4 (kk := ?_)
  exact am_W.drop [true, true, true, true, true] (b_Md_rebuild_l10 F x0 x1 x2 x3 (fun y4 τ => f_Md_rebuild_j45 F x0 x1 x2 x3 y4 τ) (fun y4 τ => am_W.drop [true, true, true, true, true] (b_Md_rebuild_j45 F x0 x1 x2 x3 y4 τ)) F 0 σ2)
def f_Md_put_j36 (F : Nat) (x0 : Nat)  (σ : am_S) : Option (Int32 × am_S) :=
  am_b2 (f_Md_bad F σ x0) fun v4 σ5 =>
  some (v4, σ5)
theorem b_Md_put_j36 {g : am_G} {σ0 : am_S} (F : Nat) (x0 : Nat)   (σ : am_S) : am_W g mx_Md_put σ0 36 [some (.ref x0), none, none, none, none, none] [] σ (f_Md_put_j36 F x0 σ) am_kI := by
  unfold f_Md_put_j36
  refine aw_aload_n 0 (kk := ?_)
  refine ac_I (st := []) [.ref x0] (ag_V 305 10 rc_Md_bad wd_1291 cal_Md_bad wd_1293 ws_42) cal_Md_bad ⟨by decide, by decide⟩ (Nat.le_of_ble_eq_true rfl) (m_Md_bad g F σ x0) (fun v4 σ5 => ?_)
  exact aw_iret
def f_Md_put_j149 (F : Nat) (x0 : Nat)  (σ : am_S) : Option (Int32 × am_S) :=
  am_b2 (f_Md_refused F σ x0) fun v21 σ22 =>
  some (v21, σ22)
theorem b_Md_put_j149 {g : am_G} {σ0 : am_S} (F : Nat) (x0 : Nat)   (σ : am_S) : am_W g mx_Md_put σ0 149 [some (.ref x0), none, none, none, none, none] [] σ (f_Md_put_j149 F x0 σ) am_kI := by
  unfold f_Md_put_j149
  refine aw_aload_n 0 (kk := ?_)
  refine ac_I (st := []) [.ref x0] (ag_V 326 10 rc_Md_refused wd_1381 cal_Md_refused wd_1383 ws_46) cal_Md_refused ⟨by decide, by decide⟩ (Nat.le_of_ble_eq_true rfl) (m_Md_refused g F σ x0) (fun v21 σ22 => ?_)
  exact aw_iret
def f_Md_put_j194 (F : Nat) (x0 : Nat) (x1 : Int32) (x4 : Int32)  (σ : am_S) : Option (Int32 × am_S) :=
  (am_gA σ 10 1 x0).bind fun v23 =>
  (am_lA σ 11 v23 x1).bind fun v24 =>
  (am_gA σ 10 37 x0).bind fun v25 =>
  (f_Ps_set F σ v24 v25).bind fun σ26 =>
  some (x4, σ26)
theorem b_Md_put_j194 {g : am_G} {σ0 : am_S} (F : Nat) (x0 : Nat) (x1 : Int32) (x4 : Int32)   (σ : am_S) : am_W g mx_Md_put σ0 194 [some (.ref x0), some (.int x1), none, none, some (.int x4), none] [] σ (f_Md_put_j194 F x0 x1 x4 σ) am_kI := by
  unfold f_Md_put_j194
  refine aw_aload_n 0 (kk := ?_)
  refine aw_gA 10 1 278 (hw := wd_1156) (kk := fun v23 => ?_)
  refine aw_iload_n 1 (kk := ?_)
  refine aw_lA 11 (kk := fun v24 => ?_)
  refine aw_aload_n 0 (kk := ?_)
  refine aw_gA 10 37 290 (hw := wd_1192) (kk := fun v25 => ?_)
  refine ac_V (st := []) [.ref v24, .ref v25] (ag_V 329 11 rc_Ps_set wd_1386 cal_Ps_set wd_1387 wd_1388) cal_Ps_set ⟨by decide, by decide⟩ (Nat.le_of_ble_eq_true rfl) (m_Ps_set g F σ v24 v25) (fun σ26 => ?_)
  refine aw_iload 4 (kk := ?_)
  exact aw_iret
def f_Md_put_j154 (F : Nat) (x0 : Nat) (x1 : Int32) (x3 : Nat) (x4 : Int32) (x5 : Int32)  (σ : am_S) : Option (Int32 × am_S) :=
  if x5 = 0 then
    f_Md_put_j194 F x0 x1 x4 σ
  else
    (am_gA σ 10 2 x0).bind fun v27 =>
    am_b2 (f_Ro_addc F σ v27 x3) fun v28 σ29 =>
    (am_gI σ29 10 4 x0).bind fun v30 =>
    (am_pI σ29 10 4 x0 (v30 + 1)).bind fun σ31 =>
    (am_gA σ31 10 3 x0).bind fun v32 =>
    (am_gI σ31 10 4 x0).bind fun v33 =>
    (am_gA σ31 10 2 x0).bind fun v34 =>
    (am_gI σ31 12 1 v34).bind fun v35 =>
    (am_sI σ31 v32 v33 v35).bind fun σ36 =>
    f_Md_put_j194 F x0 x1 x4 σ36
theorem b_Md_put_j154 {g : am_G} {σ0 : am_S} (F : Nat) (x0 : Nat) (x1 : Int32) (x3 : Nat) (x4 : Int32) (x5 : Int32)   (σ : am_S) : am_W g mx_Md_put σ0 154 [some (.ref x0), some (.int x1), none, some (.ref x3), some (.int x4), some (.int x5)] [] σ (f_Md_put_j154 F x0 x1 x3 x4 x5 σ) am_kI := by
  unfold f_Md_put_j154
  refine aw_iload 5 (kk := ?_)
  refine aw_if_eq 38 194 (kt := fun _ => ?_) (kf := fun _ => ?_)
  · exact am_W.drop [true, true, false, false, true, false] (b_Md_put_j194 F x0 x1 x4 σ)
  · refine aw_aload_n 0 (kk := ?_)
    refine aw_gA 10 2 20 (hw := wd_1157) (kk := fun v27 => ?_)
    refine aw_aload_n 3 (kk := ?_)
    refine ac_A (st := []) [.ref v27, .ref x3] (ag_V 165 12 rc_Ro_addc wd_1385 cal_Ro_addc wd_1313 wd_1314) cal_Ro_addc ⟨by decide, by decide⟩ (Nat.le_of_ble_eq_true rfl) (m_Ro_addc g F σ v27 x3) (fun v28 σ29 => ?_)
    refine aw_pop (kk := ?_)
    refine aw_aload_n 0 (kk := ?_)
    refine aw_dup (kk := ?_)
    refine aw_gI 10 4 17 (hw := wd_1159) (kk := fun v30 => ?_)
    refine aw_iconst 1 (v := 1) (kk := ?_)
    refine aw_iadd (kk := ?_)
    refine aw_pI 10 4 17 (hw := wd_1159) (kk := fun σ31 => ?_)
    refine aw_aload_n 0 (kk := ?_)
    refine aw_gA 10 3 24 (hw := wd_1158) (kk := fun v32 => ?_)
    refine aw_aload_n 0 (kk := ?_)
    refine aw_gI 10 4 17 (hw := wd_1159) (kk := fun v33 => ?_)
    refine aw_aload_n 0 (kk := ?_)
    refine aw_gA 10 2 20 (hw := wd_1157) (kk := fun v34 => ?_)
    refine aw_gI 12 1 7 (hw := wd_1116) (kk := fun v35 => ?_)
    refine aw_sI (kk := fun σ36 => ?_)
    exact am_W.drop [true, true, false, false, true, false] (b_Md_put_j194 F x0 x1 x4 σ36)
def f_Md_put_j78 (F : Nat) (x0 : Nat) (x1 : Int32) (x3 : Nat) (x4 : Int32) (x5 : Int32)  (σ : am_S) : Option (Int32 × am_S) :=
  (am_gA σ 10 1 x0).bind fun v14 =>
  (am_lA σ 11 v14 x1).bind fun v15 =>
  (am_gA σ 10 6 x0).bind fun v16 =>
  (am_lA σ 12 v16 0).bind fun v17 =>
  (f_Md_rebuild F σ x0 v15 v17 x4).bind fun σ18 =>
  (am_gA σ18 10 37 x0).bind fun v19 =>
  (f_Ps_fits F σ18 v19).bind fun v20 =>
  if v20 = 0 then
    f_Md_put_j149 F x0 σ18
  else
    if x5 = 0 then
      f_Md_put_j154 F x0 x1 x3 x4 x5 σ18
    else
      (am_gI σ18 10 4 x0).bind fun v37 =>
      if v37 = 500 then
        f_Md_put_j149 F x0 σ18
      else
        (am_gI σ18 12 1 x3).bind fun v38 =>
        if 4096 < v38 then
          f_Md_put_j149 F x0 σ18
        else
          (am_gA σ18 10 2 x0).bind fun v39 =>
          (am_gI σ18 12 1 v39).bind fun v40 =>
          (am_gI σ18 12 1 x3).bind fun v41 =>
          if (v40 + v41) ≤ 32768 then
            f_Md_put_j154 F x0 x1 x3 x4 x5 σ18
          else
            f_Md_put_j149 F x0 σ18
theorem b_Md_put_j78 {g : am_G} {σ0 : am_S} (F : Nat) (x0 : Nat) (x1 : Int32) (x3 : Nat) (x4 : Int32) (x5 : Int32)   (σ : am_S) : am_W g mx_Md_put σ0 78 [some (.ref x0), some (.int x1), none, some (.ref x3), some (.int x4), some (.int x5)] [] σ (f_Md_put_j78 F x0 x1 x3 x4 x5 σ) am_kI := by
  unfold f_Md_put_j78
  refine aw_aload_n 0 (kk := ?_)
  refine aw_aload_n 0 (kk := ?_)
  refine aw_gA 10 1 278 (hw := wd_1156) (kk := fun v14 => ?_)
  refine aw_iload_n 1 (kk := ?_)
  refine aw_lA 11 (kk := fun v15 => ?_)
  refine aw_aload_n 0 (kk := ?_)
  refine aw_gA 10 6 287 (hw := wd_1161) (kk := fun v16 => ?_)
  refine aw_iconst 0 (v := 0) (kk := ?_)
  refine aw_lA 12 (kk := fun v17 => ?_)
  refine aw_iload 4 (kk := ?_)
  refine ac_V (st := []) [.ref x0, .ref v15, .ref v17, .int x4] (ag_V 321 10 rc_Md_rebuild wd_1349 cal_Md_rebuild wd_1351 ws_45) cal_Md_rebuild ⟨by decide, by decide⟩ (Nat.le_of_ble_eq_true rfl) (m_Md_rebuild g F σ x0 v15 v17 x4) (fun σ18 => ?_)
  refine aw_aload_n 0 (kk := ?_)
  refine aw_gA 10 37 290 (hw := wd_1192) (kk := fun v19 => ?_)
  refine ac_PI (st := []) [.ref v19] (ag_V 254 11 rc_Ps_fits wd_1372 cal_Ps_fits wd_1373 wd_1374) cal_Ps_fits ⟨by decide, by decide⟩ (Nat.le_of_ble_eq_true rfl) (m_Ps_fits g F σ18 v19) (fun v20 => ?_)
  refine aw_if_eq 46 149 (kt := fun _ => ?_) (kf := fun _ => ?_)
  · exact am_W.drop [true, false, false, false, false, false] (b_Md_put_j149 F x0 σ18)
  · refine aw_iload 5 (kk := ?_)
    refine aw_if_eq 46 154 (kt := fun _ => ?_) (kf := fun _ => ?_)
    · exact am_W.drop [true, true, false, true, true, true] (b_Md_put_j154 F x0 x1 x3 x4 x5 σ18)
    · refine aw_aload_n 0 (kk := ?_)
      refine aw_gI 10 4 17 (hw := wd_1159) (kk := fun v37 => ?_)
      refine aw_sipush 500 (v := 500) (kk := ?_)
      refine aw_icmp_eq 31 149 (kt := fun _ => ?_) (kf := fun _ => ?_)
      · exact am_W.drop [true, false, false, false, false, false] (b_Md_put_j149 F x0 σ18)
      · refine aw_aload_n 3 (kk := ?_)
        refine aw_gI 12 1 7 (hw := wd_1116) (kk := fun v38 => ?_)
        refine aw_sipush 4096 (v := 4096) (kk := ?_)
        refine aw_icmp_gt 21 149 (kt := fun _ => ?_) (kf := fun _ => ?_)
        · exact am_W.drop [true, false, false, false, false, false] (b_Md_put_j149 F x0 σ18)
        · refine aw_aload_n 0 (kk := ?_)
          refine aw_gA 10 2 20 (hw := wd_1157) (kk := fun v39 => ?_)
          refine aw_gI 12 1 7 (hw := wd_1116) (kk := fun v40 => ?_)
          refine aw_aload_n 3 (kk := ?_)
          refine aw_gI 12 1 7 (hw := wd_1116) (kk := fun v41 => ?_)
          refine aw_iadd (kk := ?_)
          refine aw_ldcw 325 (v := 32768) (hw := wd_1380) (kk := ?_)
          refine aw_icmp_le 8 154 (kt := fun _ => ?_) (kf := fun _ => ?_)
          · exact am_W.drop [true, true, false, true, true, true] (b_Md_put_j154 F x0 x1 x3 x4 x5 σ18)
          · exact am_W.drop [true, false, false, false, false, false] (b_Md_put_j149 F x0 σ18)
def f_Md_put_j65 (F : Nat) (x0 : Nat) (x1 : Int32) (x3 : Nat) (x4 : Int32) (t13 : Int32)  (σ : am_S) : Option (Int32 × am_S) :=
  if t13 = 0 then
    f_Md_put_j78 F x0 x1 x3 x4 t13 σ
  else
    (am_gI σ 10 4 x0).bind fun v42 =>
    f_Md_put_j78 F x0 x1 x3 v42 t13 σ
theorem b_Md_put_j65 {g : am_G} {σ0 : am_S} (F : Nat) (x0 : Nat) (x1 : Int32) (x3 : Nat) (x4 : Int32) (t13 : Int32)   (σ : am_S) : am_W g mx_Md_put σ0 65 [some (.ref x0), some (.int x1), none, some (.ref x3), some (.int x4), none] [.int t13] σ (f_Md_put_j65 F x0 x1 x3 x4 t13 σ) am_kI := by
  unfold f_Md_put_j65
  refine aw_istore 5 (kk := ?_)
  refine aw_iload 5 (kk := ?_)
  refine aw_if_eq 9 78 (kt := fun _ => ?_) (kf := fun _ => ?_)
  · exact am_W.drop [true, true, false, true, true, true] (b_Md_put_j78 F x0 x1 x3 x4 t13 σ)
  · refine aw_aload_n 0 (kk := ?_)
    refine aw_gI 10 4 17 (hw := wd_1159) (kk := fun v42 => ?_)
    refine aw_istore 4 (kk := ?_)
    exact am_W.drop [true, true, false, true, true, true] (b_Md_put_j78 F x0 x1 x3 v42 t13 σ)
def f_Md_put (F : Nat) (σ : am_S) (x0 : Nat) (x1 : Int32) : Option (Int32 × am_S) :=
  am_ck σ 10 x0 (
  (am_pI σ 10 0 x0 0).bind fun σ1 =>
  am_b2 (f_Md_takeAll F σ1 x0) fun v2 σ3 =>
  if v2 = 2 then
    (f_Md_in F σ3 x1 0 2).bind fun v6 =>
    if v6 = 0 then
      f_Md_put_j36 F x0 σ3
    else
      (am_gA σ3 10 6 x0).bind fun v7 =>
      (am_lA σ3 12 v7 0).bind fun v8 =>
      (f_Md_isPath F σ3 v8).bind fun v9 =>
      if v9 = 0 then
        f_Md_put_j36 F x0 σ3
      else
        (am_gA σ3 10 6 x0).bind fun v10 =>
        (am_lA σ3 12 v10 1).bind fun v11 =>
        (f_Md_blobOf F σ3 x0 v11).bind fun v12 =>
        if 0 ≤ v12 then
          f_Md_put_j65 F x0 x1 v11 v12 0 σ3
        else
          f_Md_put_j65 F x0 x1 v11 v12 1 σ3
  else
    f_Md_put_j36 F x0 σ3)
theorem rc_Md_put {F : Nat} {σ : am_S} {x0 : Nat} {x1 : Int32} (h : (f_Md_put F σ x0 x1).isSome = true) : ∃ fs, σ.2.2 x0 = some (.inr (10, fs)) := am_ck_some h
theorem m_Md_put (g : am_G) (F : Nat) (σ : am_S) (x0 : Nat) (x1 : Int32) : am_Met g mx_Md_put [.ref x0, .int x1] σ ((f_Md_put F σ x0 x1).bind am_kI) := by
  refine am_Met.of (lv := [some (.ref x0), some (.int x1), none, none, none, none]) (am_cc rfl (am_cc rfl am_c0)) (Nat.le_of_ble_eq_true rfl) rfl (by decide) ?_
  unfold f_Md_put
  refine am_W.ck ?_
  refine aw_aload_n 0 (kk := ?_)
  refine aw_iconst 0 (v := 0) (kk := ?_)
  refine aw_pI 10 0 269 (hw := wd_1155) (kk := fun σ1 => ?_)
  refine aw_aload_n 0 (kk := ?_)
  refine ac_I (st := []) [.ref x0] (ag_V 315 10 rc_Md_takeAll wd_1325 cal_Md_takeAll wd_1327 ws_43) cal_Md_takeAll ⟨by decide, by decide⟩ (Nat.le_of_ble_eq_true rfl) (m_Md_takeAll g F σ1 x0) (fun v2 σ3 => ?_)
  refine aw_istore_n 2 (kk := ?_)
  refine aw_iload_n 2 (kk := ?_)
  refine aw_iconst 2 (v := 2) (kk := ?_)
  refine aw_icmp_ne 24 36 (kt := fun _ => ?_) (kf := fun _ => ?_)
  · exact am_W.drop [true, false, false, false, false, false] (b_Md_put_j36 F x0 σ3)
  · refine aw_iload_n 1 (kk := ?_)
    refine aw_iconst 0 (v := 0) (kk := ?_)
    refine aw_iconst 2 (v := 2) (kk := ?_)
    refine ac_PI (st := []) [.int x1, .int 0, .int 2] (ag_S 258 wd_1329 cal_Md_in wd_1330) cal_Md_in ⟨by decide, by decide⟩ (Nat.le_of_ble_eq_true rfl) (m_Md_in g F σ3 x1 0 2) (fun v6 => ?_)
    refine aw_if_eq 15 36 (kt := fun _ => ?_) (kf := fun _ => ?_)
    · exact am_W.drop [true, false, false, false, false, false] (b_Md_put_j36 F x0 σ3)
    · refine aw_aload_n 0 (kk := ?_)
      refine aw_gA 10 6 287 (hw := wd_1161) (kk := fun v7 => ?_)
      refine aw_iconst 0 (v := 0) (kk := ?_)
      refine aw_lA 12 (kk := fun v8 => ?_)
      refine ac_PI (st := []) [.ref v8] (ag_S 318 wd_1332 cal_Md_isPath wd_1333) cal_Md_isPath ⟨by decide, by decide⟩ (Nat.le_of_ble_eq_true rfl) (m_Md_isPath g F σ3 v8) (fun v9 => ?_)
      refine aw_if_ne 8 41 (kt := fun _ => ?_) (kf := fun _ => ?_)
      · refine aw_aload_n 0 (kk := ?_)
        refine aw_gA 10 6 287 (hw := wd_1161) (kk := fun v10 => ?_)
        refine aw_iconst 1 (v := 1) (kk := ?_)
        refine aw_lA 12 (kk := fun v11 => ?_)
        refine aw_astore_n 3 (kk := ?_)
        refine aw_aload_n 0 (kk := ?_)
        refine aw_aload_n 3 (kk := ?_)
        refine ac_PI (st := []) [.ref x0, .ref v11] (ag_V 157 10 rc_Md_blobOf wd_1342 cal_Md_blobOf wd_1344 ws_44) cal_Md_blobOf ⟨by decide, by decide⟩ (Nat.le_of_ble_eq_true rfl) (m_Md_blobOf g F σ3 x0 v11) (fun v12 => ?_)
        refine aw_istore 4 (kk := ?_)
        refine aw_iload 4 (kk := ?_)
        refine aw_if_ge 7 64 (kt := fun _ => ?_) (kf := fun _ => ?_)
        · refine aw_iconst 0 (v := 0) (kk := ?_)
          exact am_W.drop [true, true, false, true, true, false] (b_Md_put_j65 F x0 x1 v11 v12 0 σ3)
        · refine aw_iconst 1 (v := 1) (kk := ?_)
          refine aw_goto 4 65 (kk := ?_)
          exact am_W.drop [true, true, false, true, true, false] (b_Md_put_j65 F x0 x1 v11 v12 1 σ3)
      · exact am_W.drop [true, false, false, false, false, false] (b_Md_put_j36 F x0 σ3)
def f_Md_drop_j36 (F : Nat) (x0 : Nat)  (σ : am_S) : Option (am_S) :=
  am_b2 (f_Md_bad F σ x0) fun v4 σ5 =>
  some σ5
theorem b_Md_drop_j36 {g : am_G} {σ0 : am_S} (F : Nat) (x0 : Nat)   (σ : am_S) : am_W g mx_Md_drop σ0 36 [some (.ref x0), none, none] [] σ (f_Md_drop_j36 F x0 σ) am_kV := by
  unfold f_Md_drop_j36
  refine aw_aload_n 0 (kk := ?_)
  refine ac_I (st := []) [.ref x0] (ag_V 305 10 rc_Md_bad wd_1291 cal_Md_bad wd_1293 ws_42) cal_Md_bad ⟨by decide, by decide⟩ (Nat.le_of_ble_eq_true rfl) (m_Md_bad g F σ x0) (fun v4 σ5 => ?_)
  refine aw_pop (kk := ?_)
  refine aw_goto 59 100 (kk := ?_)
  exact aw_vret
def f_Md_drop (F : Nat) (σ : am_S) (x0 : Nat) (x1 : Int32) : Option (am_S) :=
  am_ck σ 10 x0 (
  (am_pI σ 10 0 x0 0).bind fun σ1 =>
  am_b2 (f_Md_takeAll F σ1 x0) fun v2 σ3 =>
  if v2 = 1 then
    (f_Md_in F σ3 x1 0 2).bind fun v6 =>
    if v6 = 0 then
      f_Md_drop_j36 F x0 σ3
    else
      (am_gA σ3 10 6 x0).bind fun v7 =>
      (am_lA σ3 12 v7 0).bind fun v8 =>
      (f_Md_isPath F σ3 v8).bind fun v9 =>
      if v9 = 0 then
        f_Md_drop_j36 F x0 σ3
      else
        (am_gA σ3 10 1 x0).bind fun v10 =>
        (am_lA σ3 11 v10 x1).bind fun v11 =>
        (am_gA σ3 10 6 x0).bind fun v12 =>
        (am_lA σ3 12 v12 0).bind fun v13 =>
        (f_Ps_finda F σ3 v11 v13).bind fun v14 =>
        if 0 ≤ v14 then
          (am_gA σ3 10 1 x0).bind fun v15 =>
          (am_lA σ3 11 v15 x1).bind fun v16 =>
          (am_gA σ3 10 6 x0).bind fun v17 =>
          (am_lA σ3 12 v17 0).bind fun v18 =>
          (f_Md_rebuild F σ3 x0 v16 v18 (-1)).bind fun σ19 =>
          (am_gA σ19 10 1 x0).bind fun v20 =>
          (am_lA σ19 11 v20 x1).bind fun v21 =>
          (am_gA σ19 10 37 x0).bind fun v22 =>
          (f_Ps_set F σ19 v21 v22).bind fun σ23 =>
          some σ23
        else
          am_b2 (f_Md_refused F σ3 x0) fun v24 σ25 =>
          some σ25
  else
    f_Md_drop_j36 F x0 σ3)
theorem rc_Md_drop {F : Nat} {σ : am_S} {x0 : Nat} {x1 : Int32} (h : (f_Md_drop F σ x0 x1).isSome = true) : ∃ fs, σ.2.2 x0 = some (.inr (10, fs)) := am_ck_some h
theorem m_Md_drop (g : am_G) (F : Nat) (σ : am_S) (x0 : Nat) (x1 : Int32) : am_Met g mx_Md_drop [.ref x0, .int x1] σ ((f_Md_drop F σ x0 x1).bind am_kV) := by
  refine am_Met.of (lv := [some (.ref x0), some (.int x1), none]) (am_cc rfl (am_cc rfl am_c0)) (Nat.le_of_ble_eq_true rfl) rfl (by decide) ?_
  unfold f_Md_drop
  refine am_W.ck ?_
  refine aw_aload_n 0 (kk := ?_)
  refine aw_iconst 0 (v := 0) (kk := ?_)
  refine aw_pI 10 0 269 (hw := wd_1155) (kk := fun σ1 => ?_)
  refine aw_aload_n 0 (kk := ?_)
  refine ac_I (st := []) [.ref x0] (ag_V 315 10 rc_Md_takeAll wd_1325 cal_Md_takeAll wd_1327 ws_43) cal_Md_takeAll ⟨by decide, by decide⟩ (Nat.le_of_ble_eq_true rfl) (m_Md_takeAll g F σ1 x0) (fun v2 σ3 => ?_)
  refine aw_istore_n 2 (kk := ?_)
  refine aw_iload_n 2 (kk := ?_)
  refine aw_iconst 1 (v := 1) (kk := ?_)
  refine aw_icmp_ne 24 36 (kt := fun _ => ?_) (kf := fun _ => ?_)
  · exact am_W.drop [true, false, false] (b_Md_drop_j36 F x0 σ3)
  · refine aw_iload_n 1 (kk := ?_)
    refine aw_iconst 0 (v := 0) (kk := ?_)
    refine aw_iconst 2 (v := 2) (kk := ?_)
    refine ac_PI (st := []) [.int x1, .int 0, .int 2] (ag_S 258 wd_1329 cal_Md_in wd_1330) cal_Md_in ⟨by decide, by decide⟩ (Nat.le_of_ble_eq_true rfl) (m_Md_in g F σ3 x1 0 2) (fun v6 => ?_)
    refine aw_if_eq 15 36 (kt := fun _ => ?_) (kf := fun _ => ?_)
    · exact am_W.drop [true, false, false] (b_Md_drop_j36 F x0 σ3)
    · refine aw_aload_n 0 (kk := ?_)
      refine aw_gA 10 6 287 (hw := wd_1161) (kk := fun v7 => ?_)
      refine aw_iconst 0 (v := 0) (kk := ?_)
      refine aw_lA 12 (kk := fun v8 => ?_)
      refine ac_PI (st := []) [.ref v8] (ag_S 318 wd_1332 cal_Md_isPath wd_1333) cal_Md_isPath ⟨by decide, by decide⟩ (Nat.le_of_ble_eq_true rfl) (m_Md_isPath g F σ3 v8) (fun v9 => ?_)
      refine aw_if_ne 11 44 (kt := fun _ => ?_) (kf := fun _ => ?_)
      · refine aw_aload_n 0 (kk := ?_)
        refine aw_gA 10 1 278 (hw := wd_1156) (kk := fun v10 => ?_)
        refine aw_iload_n 1 (kk := ?_)
        refine aw_lA 11 (kk := fun v11 => ?_)
        refine aw_aload_n 0 (kk := ?_)
        refine aw_gA 10 6 287 (hw := wd_1161) (kk := fun v12 => ?_)
        refine aw_iconst 0 (v := 0) (kk := ?_)
        refine aw_lA 12 (kk := fun v13 => ?_)
        refine ac_PI (st := []) [.ref v11, .ref v13] (ag_V 332 11 rc_Ps_finda wd_1396 cal_Ps_finda wd_1397 wd_1398) cal_Ps_finda ⟨by decide, by decide⟩ (Nat.le_of_ble_eq_true rfl) (m_Ps_finda g F σ3 v11 v13) (fun v14 => ?_)
        refine aw_if_ge 11 70 (kt := fun _ => ?_) (kf := fun _ => ?_)
        · refine aw_aload_n 0 (kk := ?_)
          refine aw_aload_n 0 (kk := ?_)
          refine aw_gA 10 1 278 (hw := wd_1156) (kk := fun v15 => ?_)
          refine aw_iload_n 1 (kk := ?_)
          refine aw_lA 11 (kk := fun v16 => ?_)
          refine aw_aload_n 0 (kk := ?_)
          refine aw_gA 10 6 287 (hw := wd_1161) (kk := fun v17 => ?_)
          refine aw_iconst 0 (v := 0) (kk := ?_)
          refine aw_lA 12 (kk := fun v18 => ?_)
          refine aw_iconst (-1) (v := (-1)) (kk := ?_)
          refine ac_V (st := []) [.ref x0, .ref v16, .ref v18, .int (-1)] (ag_V 321 10 rc_Md_rebuild wd_1349 cal_Md_rebuild wd_1351 ws_45) cal_Md_rebuild ⟨by decide, by decide⟩ (Nat.le_of_ble_eq_true rfl) (m_Md_rebuild g F σ3 x0 v16 v18 (-1)) (fun σ19 => ?_)
          refine aw_aload_n 0 (kk := ?_)
          refine aw_gA 10 1 278 (hw := wd_1156) (kk := fun v20 => ?_)
          refine aw_iload_n 1 (kk := ?_)
          refine aw_lA 11 (kk := fun v21 => ?_)
          refine aw_aload_n 0 (kk := ?_)
          refine aw_gA 10 37 290 (hw := wd_1192) (kk := fun v22 => ?_)
          refine ac_V (st := []) [.ref v21, .ref v22] (ag_V 329 11 rc_Ps_set wd_1386 cal_Ps_set wd_1387 wd_1388) cal_Ps_set ⟨by decide, by decide⟩ (Nat.le_of_ble_eq_true rfl) (m_Ps_set g F σ19 v21 v22) (fun σ23 => ?_)
          exact aw_vret
        · refine aw_aload_n 0 (kk := ?_)
          refine ac_I (st := []) [.ref x0] (ag_V 326 10 rc_Md_refused wd_1381 cal_Md_refused wd_1383 ws_46) cal_Md_refused ⟨by decide, by decide⟩ (Nat.le_of_ble_eq_true rfl) (m_Md_refused g F σ3 x0) (fun v24 σ25 => ?_)
          refine aw_pop (kk := ?_)
          refine aw_goto 33 100 (kk := ?_)
          exact aw_vret
      · exact am_W.drop [true, false, false] (b_Md_drop_j36 F x0 σ3)
def f_Md_copy_j32 (F : Nat) (x0 : Nat)  (σ : am_S) : Option (am_S) :=
  am_b2 (f_Md_bad F σ x0) fun v4 σ5 =>
  some σ5
theorem b_Md_copy_j32 {g : am_G} {σ0 : am_S} (F : Nat) (x0 : Nat)   (σ : am_S) : am_W g mx_Md_copy σ0 32 [some (.ref x0), none, none, none] [] σ (f_Md_copy_j32 F x0 σ) am_kV := by
  unfold f_Md_copy_j32
  refine aw_aload_n 0 (kk := ?_)
  refine ac_I (st := []) [.ref x0] (ag_V 305 10 rc_Md_bad wd_1291 cal_Md_bad wd_1293 ws_42) cal_Md_bad ⟨by decide, by decide⟩ (Nat.le_of_ble_eq_true rfl) (m_Md_bad g F σ x0) (fun v4 σ5 => ?_)
  refine aw_pop (kk := ?_)
  refine aw_goto 29 66 (kk := ?_)
  exact aw_vret
def f_Md_copy (F : Nat) (σ : am_S) (x0 : Nat) (x1 : Int32) (x2 : Int32) : Option (am_S) :=
  am_ck σ 10 x0 (
  (am_pI σ 10 0 x0 0).bind fun σ1 =>
  am_b2 (f_Md_takeAll F σ1 x0) fun v2 σ3 =>
  if v2 = 0 then
    (f_Md_in F σ3 x1 0 2).bind fun v6 =>
    if v6 = 0 then
      f_Md_copy_j32 F x0 σ3
    else
      (f_Md_in F σ3 x2 0 2).bind fun v7 =>
      if v7 = 0 then
        f_Md_copy_j32 F x0 σ3
      else
        (am_gA σ3 10 37 x0).bind fun v8 =>
        (am_gA σ3 10 1 x0).bind fun v9 =>
        (am_lA σ3 11 v9 x1).bind fun v10 =>
        (f_Ps_set F σ3 v8 v10).bind fun σ11 =>
        (am_gA σ11 10 1 x0).bind fun v12 =>
        (am_lA σ11 11 v12 x2).bind fun v13 =>
        (am_gA σ11 10 37 x0).bind fun v14 =>
        (f_Ps_set F σ11 v13 v14).bind fun σ15 =>
        some σ15
  else
    f_Md_copy_j32 F x0 σ3)
theorem rc_Md_copy {F : Nat} {σ : am_S} {x0 : Nat} {x1 : Int32} {x2 : Int32} (h : (f_Md_copy F σ x0 x1 x2).isSome = true) : ∃ fs, σ.2.2 x0 = some (.inr (10, fs)) := am_ck_some h
theorem m_Md_copy (g : am_G) (F : Nat) (σ : am_S) (x0 : Nat) (x1 : Int32) (x2 : Int32) : am_Met g mx_Md_copy [.ref x0, .int x1, .int x2] σ ((f_Md_copy F σ x0 x1 x2).bind am_kV) := by
  refine am_Met.of (lv := [some (.ref x0), some (.int x1), some (.int x2), none]) (am_cc rfl (am_cc rfl (am_cc rfl am_c0))) (Nat.le_of_ble_eq_true rfl) rfl (by decide) ?_
  unfold f_Md_copy
  refine am_W.ck ?_
  refine aw_aload_n 0 (kk := ?_)
  refine aw_iconst 0 (v := 0) (kk := ?_)
  refine aw_pI 10 0 269 (hw := wd_1155) (kk := fun σ1 => ?_)
  refine aw_aload_n 0 (kk := ?_)
  refine ac_I (st := []) [.ref x0] (ag_V 315 10 rc_Md_takeAll wd_1325 cal_Md_takeAll wd_1327 ws_43) cal_Md_takeAll ⟨by decide, by decide⟩ (Nat.le_of_ble_eq_true rfl) (m_Md_takeAll g F σ1 x0) (fun v2 σ3 => ?_)
  refine aw_istore_n 3 (kk := ?_)
  refine aw_iload_n 3 (kk := ?_)
  refine aw_if_ne 21 32 (kt := fun _ => ?_) (kf := fun _ => ?_)
  · exact am_W.drop [true, false, false, false] (b_Md_copy_j32 F x0 σ3)
  · refine aw_iload_n 1 (kk := ?_)
    refine aw_iconst 0 (v := 0) (kk := ?_)
    refine aw_iconst 2 (v := 2) (kk := ?_)
    refine ac_PI (st := []) [.int x1, .int 0, .int 2] (ag_S 258 wd_1329 cal_Md_in wd_1330) cal_Md_in ⟨by decide, by decide⟩ (Nat.le_of_ble_eq_true rfl) (m_Md_in g F σ3 x1 0 2) (fun v6 => ?_)
    refine aw_if_eq 12 32 (kt := fun _ => ?_) (kf := fun _ => ?_)
    · exact am_W.drop [true, false, false, false] (b_Md_copy_j32 F x0 σ3)
    · refine aw_iload_n 2 (kk := ?_)
      refine aw_iconst 0 (v := 0) (kk := ?_)
      refine aw_iconst 2 (v := 2) (kk := ?_)
      refine ac_PI (st := []) [.int x2, .int 0, .int 2] (ag_S 258 wd_1329 cal_Md_in wd_1330) cal_Md_in ⟨by decide, by decide⟩ (Nat.le_of_ble_eq_true rfl) (m_Md_in g F σ3 x2 0 2) (fun v7 => ?_)
      refine aw_if_ne 11 40 (kt := fun _ => ?_) (kf := fun _ => ?_)
      · refine aw_aload_n 0 (kk := ?_)
        refine aw_gA 10 37 290 (hw := wd_1192) (kk := fun v8 => ?_)
        refine aw_aload_n 0 (kk := ?_)
        refine aw_gA 10 1 278 (hw := wd_1156) (kk := fun v9 => ?_)
        refine aw_iload_n 1 (kk := ?_)
        refine aw_lA 11 (kk := fun v10 => ?_)
        refine ac_V (st := []) [.ref v8, .ref v10] (ag_V 329 11 rc_Ps_set wd_1386 cal_Ps_set wd_1387 wd_1388) cal_Ps_set ⟨by decide, by decide⟩ (Nat.le_of_ble_eq_true rfl) (m_Ps_set g F σ3 v8 v10) (fun σ11 => ?_)
        refine aw_aload_n 0 (kk := ?_)
        refine aw_gA 10 1 278 (hw := wd_1156) (kk := fun v12 => ?_)
        refine aw_iload_n 2 (kk := ?_)
        refine aw_lA 11 (kk := fun v13 => ?_)
        refine aw_aload_n 0 (kk := ?_)
        refine aw_gA 10 37 290 (hw := wd_1192) (kk := fun v14 => ?_)
        refine ac_V (st := []) [.ref v13, .ref v14] (ag_V 329 11 rc_Ps_set wd_1386 cal_Ps_set wd_1387 wd_1388) cal_Ps_set ⟨by decide, by decide⟩ (Nat.le_of_ble_eq_true rfl) (m_Ps_set g F σ11 v13 v14) (fun σ15 => ?_)
        exact aw_vret
      · exact am_W.drop [true, false, false, false] (b_Md_copy_j32 F x0 σ3)
def f_Md_merge_j303 (F : Nat) (x1 : Int32) (x2 : Int32) (t58 : Nat) (t59 : Int32) (k53 : Int32 → Int32 → am_S → Option (Int32 × am_S)) (σ : am_S) : Option (Int32 × am_S) :=
  (am_sI σ t58 t59 (-1)).bind fun σ60 =>
  k53 x1 (x2 + 1) σ60
theorem b_Md_merge_j303 {g : am_G} {σ0 : am_S} (F : Nat) (x0 : Nat) (x1 : Int32) (x2 : Int32) (t58 : Nat) (t59 : Int32) (k53 : Int32 → Int32 → am_S → Option (Int32 × am_S)) (h53 : ∀ (y1 : Int32) (y2 : Int32)  (τ : am_S), am_W g mx_Md_merge σ0 53 [some (.ref x0), some (.int y1), some (.int y2), none, none, none] [] τ (k53 y1 y2 τ) am_kI) (σ : am_S) : am_W g mx_Md_merge σ0 303 [some (.ref x0), some (.int x1), some (.int x2), none, none, none] [.int t59, .ref t58] σ (f_Md_merge_j303 F x1 x2 t58 t59 k53 σ) am_kI := by
  unfold f_Md_merge_j303
  refine aw_iconst (-1) (v := (-1)) (kk := ?_)
  refine aw_goto 19 323 (kk := ?_)
  refine aw_sI (kk := fun σ60 => ?_)
  refine aw_iinc 2 1 (v := 1) (kk := ?_)
  refine aw_goto (-274) 53 (kk := ?_)
  exact am_W.drop [true, true, true, false, false, false] (h53 x1 (x2 + 1) σ60)
def f_Md_merge_j276 (F : Nat) (x0 : Nat) (x1 : Int32) (x2 : Int32) (x3 : Int32) (x5 : Int32) (t52 : Nat) (t53 : Int32) (t54 : Int32) (k53 : Int32 → Int32 → am_S → Option (Int32 × am_S)) (σ : am_S) : Option (Int32 × am_S) :=
  (am_sI σ t52 t53 t54).bind fun σ55 =>
  (am_gA σ55 10 38 x0).bind fun v56 =>
  (am_gA σ55 11 2 v56).bind fun v57 =>
  if x5 = 0 then
    f_Md_merge_j303 F x1 x2 v57 ((3 * x2) + 2) (fun y1 y2 τ => k53 y1 y2 τ) σ55
  else
    (am_gA σ55 10 36 x0).bind fun v61 =>
    (am_lI σ55 .int v61 x3).bind fun v62 =>
    if 0 ≤ v62 then
      (am_gA σ55 10 22 x0).bind fun v63 =>
      (am_gA σ55 11 2 v63).bind fun v64 =>
      (am_gA σ55 10 36 x0).bind fun v65 =>
      (am_lI σ55 .int v65 x3).bind fun v66 =>
      (am_lI σ55 .int v64 (3 * v66)).bind fun v67 =>
      (am_sI σ55 v57 ((3 * x2) + 2) v67).bind fun σ68 =>
      k53 x1 (x2 + 1) σ68
    else
      f_Md_merge_j303 F x1 x2 v57 ((3 * x2) + 2) (fun y1 y2 τ => k53 y1 y2 τ) σ55
theorem b_Md_merge_j276 {g : am_G} {σ0 : am_S} (F : Nat) (x0 : Nat) (x1 : Int32) (x2 : Int32) (x3 : Int32) (x5 : Int32) (t52 : Nat) (t53 : Int32) (t54 : Int32) (k53 : Int32 → Int32 → am_S → Option (Int32 × am_S)) (h53 : ∀ (y1 : Int32) (y2 : Int32)  (τ : am_S), am_W g mx_Md_merge σ0 53 [some (.ref x0), some (.int y1), some (.int y2), none, none, none] [] τ (k53 y1 y2 τ) am_kI) (σ : am_S) : am_W g mx_Md_merge σ0 276 [some (.ref x0), some (.int x1), some (.int x2), some (.int x3), none, some (.int x5)] [.int t54, .int t53, .ref t52] σ (f_Md_merge_j276 F x0 x1 x2 x3 x5 t52 t53 t54 k53 σ) am_kI := by
  unfold f_Md_merge_j276
  refine aw_sI (kk := fun σ55 => ?_)
  refine aw_aload_n 0 (kk := ?_)
  refine aw_gA 10 38 293 (hw := wd_1193) (kk := fun v56 => ?_)
  refine aw_gA 11 2 142 (hw := wd_1128) (kk := fun v57 => ?_)
  refine aw_iconst 3 (v := 3) (kk := ?_)
  refine aw_iload_n 2 (kk := ?_)
  refine aw_imul (kk := ?_)
  refine aw_iconst 2 (v := 2) (kk := ?_)
  refine aw_iadd (kk := ?_)
  refine aw_iload 5 (kk := ?_)
  refine aw_if_eq 12 303 (kt := fun _ => ?_) (kf := fun _ => ?_)
  · exact am_W.drop [true, true, true, false, false, false] (b_Md_merge_j303 F x0 x1 x2 v57 ((3 * x2) + 2) (fun y1 y2 τ => k53 y1 y2 τ) (fun y1 y2 τ => am_W.drop [true, true, true, false, false, false] (h53 y1 y2 τ)) σ55)
  · refine aw_aload_n 0 (kk := ?_)
    refine aw_gA 10 36 190 (hw := wd_1191) (kk := fun v61 => ?_)
    refine aw_iload_n 3 (kk := ?_)
    refine aw_lI (kk := fun v62 => ?_)
    refine aw_if_ge 7 307 (kt := fun _ => ?_) (kf := fun _ => ?_)
    · refine aw_aload_n 0 (kk := ?_)
      refine aw_gA 10 22 202 (hw := wd_1177) (kk := fun v63 => ?_)
      refine aw_gA 11 2 142 (hw := wd_1128) (kk := fun v64 => ?_)
      refine aw_iconst 3 (v := 3) (kk := ?_)
      refine aw_aload_n 0 (kk := ?_)
      refine aw_gA 10 36 190 (hw := wd_1191) (kk := fun v65 => ?_)
      refine aw_iload_n 3 (kk := ?_)
      refine aw_lI (kk := fun v66 => ?_)
      refine aw_imul (kk := ?_)
      refine aw_lI (kk := fun v67 => ?_)
      refine aw_sI (kk := fun σ68 => ?_)
      refine aw_iinc 2 1 (v := 1) (kk := ?_)
      refine aw_goto (-274) 53 (kk := ?_)
      exact am_W.drop [true, true, true, false, false, false] (h53 x1 (x2 + 1) σ68)
    · exact am_W.drop [true, true, true, false, false, false] (b_Md_merge_j303 F x0 x1 x2 v57 ((3 * x2) + 2) (fun y1 y2 τ => k53 y1 y2 τ) (fun y1 y2 τ => am_W.drop [true, true, true, false, false, false] (h53 y1 y2 τ)) σ55)
def f_Md_merge_j256 (F : Nat) (x0 : Nat) (x1 : Int32) (x2 : Int32) (x3 : Int32) (x5 : Int32) (t50 : Nat) (t51 : Int32) (k53 : Int32 → Int32 → am_S → Option (Int32 × am_S)) (σ : am_S) : Option (Int32 × am_S) :=
  f_Md_merge_j276 F x0 x1 x2 x3 x5 t50 t51 (-1) (fun y1 y2 τ => k53 y1 y2 τ) σ
theorem b_Md_merge_j256 {g : am_G} {σ0 : am_S} (F : Nat) (x0 : Nat) (x1 : Int32) (x2 : Int32) (x3 : Int32) (x5 : Int32) (t50 : Nat) (t51 : Int32) (k53 : Int32 → Int32 → am_S → Option (Int32 × am_S)) (h53 : ∀ (y1 : Int32) (y2 : Int32)  (τ : am_S), am_W g mx_Md_merge σ0 53 [some (.ref x0), some (.int y1), some (.int y2), none, none, none] [] τ (k53 y1 y2 τ) am_kI) (σ : am_S) : am_W g mx_Md_merge σ0 256 [some (.ref x0), some (.int x1), some (.int x2), some (.int x3), none, some (.int x5)] [.int t51, .ref t50] σ (f_Md_merge_j256 F x0 x1 x2 x3 x5 t50 t51 k53 σ) am_kI := by
  unfold f_Md_merge_j256
  refine aw_iconst (-1) (v := (-1)) (kk := ?_)
  refine aw_goto 19 276 (kk := ?_)
  exact am_W.drop [true, true, true, true, false, true] (b_Md_merge_j276 F x0 x1 x2 x3 x5 t50 t51 (-1) (fun y1 y2 τ => k53 y1 y2 τ) (fun y1 y2 τ => am_W.drop [true, true, true, false, false, false] (h53 y1 y2 τ)) σ)
def f_Md_merge_j229 (F : Nat) (x0 : Nat) (x1 : Int32) (x2 : Int32) (x3 : Int32) (x5 : Int32) (t44 : Nat) (t45 : Int32) (t46 : Int32) (k53 : Int32 → Int32 → am_S → Option (Int32 × am_S)) (σ : am_S) : Option (Int32 × am_S) :=
  (am_sI σ t44 t45 t46).bind fun σ47 =>
  (am_gA σ47 10 38 x0).bind fun v48 =>
  (am_gA σ47 11 2 v48).bind fun v49 =>
  if x5 = 0 then
    f_Md_merge_j256 F x0 x1 x2 x3 x5 v49 ((3 * x2) + 1) (fun y1 y2 τ => k53 y1 y2 τ) σ47
  else
    (am_gA σ47 10 35 x0).bind fun v69 =>
    (am_lI σ47 .int v69 x3).bind fun v70 =>
    if 0 ≤ v70 then
      (am_gA σ47 10 21 x0).bind fun v71 =>
      (am_gA σ47 11 2 v71).bind fun v72 =>
      (am_gA σ47 10 35 x0).bind fun v73 =>
      (am_lI σ47 .int v73 x3).bind fun v74 =>
      (am_lI σ47 .int v72 (3 * v74)).bind fun v75 =>
      f_Md_merge_j276 F x0 x1 x2 x3 x5 v49 ((3 * x2) + 1) v75 (fun y1 y2 τ => k53 y1 y2 τ) σ47
    else
      f_Md_merge_j256 F x0 x1 x2 x3 x5 v49 ((3 * x2) + 1) (fun y1 y2 τ => k53 y1 y2 τ) σ47
theorem b_Md_merge_j229 {g : am_G} {σ0 : am_S} (F : Nat) (x0 : Nat) (x1 : Int32) (x2 : Int32) (x3 : Int32) (x5 : Int32) (t44 : Nat) (t45 : Int32) (t46 : Int32) (k53 : Int32 → Int32 → am_S → Option (Int32 × am_S)) (h53 : ∀ (y1 : Int32) (y2 : Int32)  (τ : am_S), am_W g mx_Md_merge σ0 53 [some (.ref x0), some (.int y1), some (.int y2), none, none, none] [] τ (k53 y1 y2 τ) am_kI) (σ : am_S) : am_W g mx_Md_merge σ0 229 [some (.ref x0), some (.int x1), some (.int x2), some (.int x3), none, some (.int x5)] [.int t46, .int t45, .ref t44] σ (f_Md_merge_j229 F x0 x1 x2 x3 x5 t44 t45 t46 k53 σ) am_kI := by
  unfold f_Md_merge_j229
  refine aw_sI (kk := fun σ47 => ?_)
  refine aw_aload_n 0 (kk := ?_)
  refine aw_gA 10 38 293 (hw := wd_1193) (kk := fun v48 => ?_)
  refine aw_gA 11 2 142 (hw := wd_1128) (kk := fun v49 => ?_)
  refine aw_iconst 3 (v := 3) (kk := ?_)
  refine aw_iload_n 2 (kk := ?_)
  refine aw_imul (kk := ?_)
  refine aw_iconst 1 (v := 1) (kk := ?_)
  refine aw_iadd (kk := ?_)
  refine aw_iload 5 (kk := ?_)
  refine aw_if_eq 12 256 (kt := fun _ => ?_) (kf := fun _ => ?_)
  · exact am_W.drop [true, true, true, true, false, true] (b_Md_merge_j256 F x0 x1 x2 x3 x5 v49 ((3 * x2) + 1) (fun y1 y2 τ => k53 y1 y2 τ) (fun y1 y2 τ => am_W.drop [true, true, true, false, false, false] (h53 y1 y2 τ)) σ47)
  · refine aw_aload_n 0 (kk := ?_)
    refine aw_gA 10 35 187 (hw := wd_1190) (kk := fun v69 => ?_)
    refine aw_iload_n 3 (kk := ?_)
    refine aw_lI (kk := fun v70 => ?_)
    refine aw_if_ge 7 260 (kt := fun _ => ?_) (kf := fun _ => ?_)
    · refine aw_aload_n 0 (kk := ?_)
      refine aw_gA 10 21 199 (hw := wd_1176) (kk := fun v71 => ?_)
      refine aw_gA 11 2 142 (hw := wd_1128) (kk := fun v72 => ?_)
      refine aw_iconst 3 (v := 3) (kk := ?_)
      refine aw_aload_n 0 (kk := ?_)
      refine aw_gA 10 35 187 (hw := wd_1190) (kk := fun v73 => ?_)
      refine aw_iload_n 3 (kk := ?_)
      refine aw_lI (kk := fun v74 => ?_)
      refine aw_imul (kk := ?_)
      refine aw_lI (kk := fun v75 => ?_)
      exact am_W.drop [true, true, true, true, false, true] (b_Md_merge_j276 F x0 x1 x2 x3 x5 v49 ((3 * x2) + 1) v75 (fun y1 y2 τ => k53 y1 y2 τ) (fun y1 y2 τ => am_W.drop [true, true, true, false, false, false] (h53 y1 y2 τ)) σ47)
    · exact am_W.drop [true, true, true, true, false, true] (b_Md_merge_j256 F x0 x1 x2 x3 x5 v49 ((3 * x2) + 1) (fun y1 y2 τ => k53 y1 y2 τ) (fun y1 y2 τ => am_W.drop [true, true, true, false, false, false] (h53 y1 y2 τ)) σ47)
def f_Md_merge_j209 (F : Nat) (x0 : Nat) (x1 : Int32) (x2 : Int32) (x3 : Int32) (x5 : Int32) (t42 : Nat) (t43 : Int32) (k53 : Int32 → Int32 → am_S → Option (Int32 × am_S)) (σ : am_S) : Option (Int32 × am_S) :=
  f_Md_merge_j229 F x0 x1 x2 x3 x5 t42 t43 (-1) (fun y1 y2 τ => k53 y1 y2 τ) σ
theorem b_Md_merge_j209 {g : am_G} {σ0 : am_S} (F : Nat) (x0 : Nat) (x1 : Int32) (x2 : Int32) (x3 : Int32) (x5 : Int32) (t42 : Nat) (t43 : Int32) (k53 : Int32 → Int32 → am_S → Option (Int32 × am_S)) (h53 : ∀ (y1 : Int32) (y2 : Int32)  (τ : am_S), am_W g mx_Md_merge σ0 53 [some (.ref x0), some (.int y1), some (.int y2), none, none, none] [] τ (k53 y1 y2 τ) am_kI) (σ : am_S) : am_W g mx_Md_merge σ0 209 [some (.ref x0), some (.int x1), some (.int x2), some (.int x3), none, some (.int x5)] [.int t43, .ref t42] σ (f_Md_merge_j209 F x0 x1 x2 x3 x5 t42 t43 k53 σ) am_kI := by
  unfold f_Md_merge_j209
  refine aw_iconst (-1) (v := (-1)) (kk := ?_)
  refine aw_goto 19 229 (kk := ?_)
  exact am_W.drop [true, true, true, true, false, true] (b_Md_merge_j229 F x0 x1 x2 x3 x5 t42 t43 (-1) (fun y1 y2 τ => k53 y1 y2 τ) (fun y1 y2 τ => am_W.drop [true, true, true, false, false, false] (h53 y1 y2 τ)) σ)
def f_Md_merge_j185 (F : Nat) (x0 : Nat) (x1 : Int32) (x2 : Int32) (x3 : Int32) (x5 : Int32) (k53 : Int32 → Int32 → am_S → Option (Int32 × am_S)) (σ : am_S) : Option (Int32 × am_S) :=
  (am_gA σ 10 38 x0).bind fun v40 =>
  (am_gA σ 11 2 v40).bind fun v41 =>
  if x5 = 0 then
    f_Md_merge_j209 F x0 x1 x2 x3 x5 v41 (3 * x2) (fun y1 y2 τ => k53 y1 y2 τ) σ
  else
    (am_gA σ 10 34 x0).bind fun v76 =>
    (am_lI σ .int v76 x3).bind fun v77 =>
    if 0 ≤ v77 then
      (am_gA σ 10 20 x0).bind fun v78 =>
      (am_gA σ 11 2 v78).bind fun v79 =>
      (am_gA σ 10 34 x0).bind fun v80 =>
      (am_lI σ .int v80 x3).bind fun v81 =>
      (am_lI σ .int v79 (3 * v81)).bind fun v82 =>
      f_Md_merge_j229 F x0 x1 x2 x3 x5 v41 (3 * x2) v82 (fun y1 y2 τ => k53 y1 y2 τ) σ
    else
      f_Md_merge_j209 F x0 x1 x2 x3 x5 v41 (3 * x2) (fun y1 y2 τ => k53 y1 y2 τ) σ
theorem b_Md_merge_j185 {g : am_G} {σ0 : am_S} (F : Nat) (x0 : Nat) (x1 : Int32) (x2 : Int32) (x3 : Int32) (x5 : Int32) (k53 : Int32 → Int32 → am_S → Option (Int32 × am_S)) (h53 : ∀ (y1 : Int32) (y2 : Int32)  (τ : am_S), am_W g mx_Md_merge σ0 53 [some (.ref x0), some (.int y1), some (.int y2), none, none, none] [] τ (k53 y1 y2 τ) am_kI) (σ : am_S) : am_W g mx_Md_merge σ0 185 [some (.ref x0), some (.int x1), some (.int x2), some (.int x3), none, some (.int x5)] [] σ (f_Md_merge_j185 F x0 x1 x2 x3 x5 k53 σ) am_kI := by
  unfold f_Md_merge_j185
  refine aw_aload_n 0 (kk := ?_)
  refine aw_gA 10 38 293 (hw := wd_1193) (kk := fun v40 => ?_)
  refine aw_gA 11 2 142 (hw := wd_1128) (kk := fun v41 => ?_)
  refine aw_iconst 3 (v := 3) (kk := ?_)
  refine aw_iload_n 2 (kk := ?_)
  refine aw_imul (kk := ?_)
  refine aw_iload 5 (kk := ?_)
  refine aw_if_eq 12 209 (kt := fun _ => ?_) (kf := fun _ => ?_)
  · exact am_W.drop [true, true, true, true, false, true] (b_Md_merge_j209 F x0 x1 x2 x3 x5 v41 (3 * x2) (fun y1 y2 τ => k53 y1 y2 τ) (fun y1 y2 τ => am_W.drop [true, true, true, false, false, false] (h53 y1 y2 τ)) σ)
  · refine aw_aload_n 0 (kk := ?_)
    refine aw_gA 10 34 193 (hw := wd_1189) (kk := fun v76 => ?_)
    refine aw_iload_n 3 (kk := ?_)
    refine aw_lI (kk := fun v77 => ?_)
    refine aw_if_ge 7 213 (kt := fun _ => ?_) (kf := fun _ => ?_)
    · refine aw_aload_n 0 (kk := ?_)
      refine aw_gA 10 20 196 (hw := wd_1175) (kk := fun v78 => ?_)
      refine aw_gA 11 2 142 (hw := wd_1128) (kk := fun v79 => ?_)
      refine aw_iconst 3 (v := 3) (kk := ?_)
      refine aw_aload_n 0 (kk := ?_)
      refine aw_gA 10 34 193 (hw := wd_1189) (kk := fun v80 => ?_)
      refine aw_iload_n 3 (kk := ?_)
      refine aw_lI (kk := fun v81 => ?_)
      refine aw_imul (kk := ?_)
      refine aw_lI (kk := fun v82 => ?_)
      exact am_W.drop [true, true, true, true, false, true] (b_Md_merge_j229 F x0 x1 x2 x3 x5 v41 (3 * x2) v82 (fun y1 y2 τ => k53 y1 y2 τ) (fun y1 y2 τ => am_W.drop [true, true, true, false, false, false] (h53 y1 y2 τ)) σ)
    · exact am_W.drop [true, true, true, true, false, true] (b_Md_merge_j209 F x0 x1 x2 x3 x5 v41 (3 * x2) (fun y1 y2 τ => k53 y1 y2 τ) (fun y1 y2 τ => am_W.drop [true, true, true, false, false, false] (h53 y1 y2 τ)) σ)
def f_Md_merge_j165 (F : Nat) (x0 : Nat) (x1 : Int32) (x2 : Int32) (x3 : Int32) (t33 : Nat) (t34 : Int32) (t35 : Int32) (k53 : Int32 → Int32 → am_S → Option (Int32 × am_S)) (σ : am_S) : Option (Int32 × am_S) :=
  (am_sI σ t33 t34 t35).bind fun σ36 =>
  (am_gA σ36 10 24 x0).bind fun v37 =>
  (am_gA σ36 11 3 v37).bind fun v38 =>
  (am_lI σ36 .boolean v38 x2).bind fun v39 =>
  if v39 = 0 then
    f_Md_merge_j185 F x0 x1 x2 x3 v39 (fun y1 y2 τ => k53 y1 y2 τ) σ36
  else
    f_Md_merge_j185 F x0 (x1 + 1) x2 x3 v39 (fun y1 y2 τ => k53 y1 y2 τ) σ36
theorem b_Md_merge_j165 {g : am_G} {σ0 : am_S} (F : Nat) (x0 : Nat) (x1 : Int32) (x2 : Int32) (x3 : Int32) (t33 : Nat) (t34 : Int32) (t35 : Int32) (k53 : Int32 → Int32 → am_S → Option (Int32 × am_S)) (h53 : ∀ (y1 : Int32) (y2 : Int32)  (τ : am_S), am_W g mx_Md_merge σ0 53 [some (.ref x0), some (.int y1), some (.int y2), none, none, none] [] τ (k53 y1 y2 τ) am_kI) (σ : am_S) : am_W g mx_Md_merge σ0 165 [some (.ref x0), some (.int x1), some (.int x2), some (.int x3), none, none] [.int t35, .int t34, .ref t33] σ (f_Md_merge_j165 F x0 x1 x2 x3 t33 t34 t35 k53 σ) am_kI := by
  unfold f_Md_merge_j165
  refine aw_sI (kk := fun σ36 => ?_)
  refine aw_aload_n 0 (kk := ?_)
  refine aw_gA 10 24 247 (hw := wd_1179) (kk := fun v37 => ?_)
  refine aw_gA 11 3 183 (hw := wd_1130) (kk := fun v38 => ?_)
  refine aw_iload_n 2 (kk := ?_)
  refine aw_lZ (kk := fun v39 => ?_)
  refine aw_istore 5 (kk := ?_)
  refine aw_iload 5 (kk := ?_)
  refine aw_if_eq 6 185 (kt := fun _ => ?_) (kf := fun _ => ?_)
  · exact am_W.drop [true, true, true, true, false, true] (b_Md_merge_j185 F x0 x1 x2 x3 v39 (fun y1 y2 τ => k53 y1 y2 τ) (fun y1 y2 τ => am_W.drop [true, true, true, false, false, false] (h53 y1 y2 τ)) σ36)
  · refine aw_iinc 1 1 (v := 1) (kk := ?_)
    exact am_W.drop [true, true, true, true, false, true] (b_Md_merge_j185 F x0 (x1 + 1) x2 x3 v39 (fun y1 y2 τ => k53 y1 y2 τ) (fun y1 y2 τ => am_W.drop [true, true, true, false, false, false] (h53 y1 y2 τ)) σ36)
def f_Md_merge_j127 (F : Nat) (x0 : Nat) (x1 : Int32) (x2 : Int32) (x3 : Int32) (x4 : Int32) (t28 : Nat) (t29 : Int32) (t30 : Int32) (k53 : Int32 → Int32 → am_S → Option (Int32 × am_S)) (σ : am_S) : Option (Int32 × am_S) :=
  (am_sI σ t28 t29 t30).bind fun σ31 =>
  (am_gA σ31 10 41 x0).bind fun v32 =>
  if 0 ≤ x4 then
    f_Md_merge_j165 F x0 x1 x2 x3 v32 x2 x4 (fun y1 y2 τ => k53 y1 y2 τ) σ31
  else
    (am_gA σ31 10 32 x0).bind fun v83 =>
    (am_lI σ31 .int v83 ((-1) - x4)).bind fun v84 =>
    (am_gA σ31 10 32 x0).bind fun v85 =>
    (am_lI σ31 .int v85 ((-2) - x4)).bind fun v86 =>
    f_Md_merge_j165 F x0 x1 x2 x3 v32 x2 ((-1) - (v84 - v86)) (fun y1 y2 τ => k53 y1 y2 τ) σ31
theorem b_Md_merge_j127 {g : am_G} {σ0 : am_S} (F : Nat) (x0 : Nat) (x1 : Int32) (x2 : Int32) (x3 : Int32) (x4 : Int32) (t28 : Nat) (t29 : Int32) (t30 : Int32) (k53 : Int32 → Int32 → am_S → Option (Int32 × am_S)) (h53 : ∀ (y1 : Int32) (y2 : Int32)  (τ : am_S), am_W g mx_Md_merge σ0 53 [some (.ref x0), some (.int y1), some (.int y2), none, none, none] [] τ (k53 y1 y2 τ) am_kI) (σ : am_S) : am_W g mx_Md_merge σ0 127 [some (.ref x0), some (.int x1), some (.int x2), some (.int x3), some (.int x4), none] [.int t30, .int t29, .ref t28] σ (f_Md_merge_j127 F x0 x1 x2 x3 x4 t28 t29 t30 k53 σ) am_kI := by
  unfold f_Md_merge_j127
  refine aw_sI (kk := fun σ31 => ?_)
  refine aw_aload_n 0 (kk := ?_)
  refine aw_gA 10 41 302 (hw := wd_1196) (kk := fun v32 => ?_)
  refine aw_iload_n 2 (kk := ?_)
  refine aw_iload 4 (kk := ?_)
  refine aw_if_ge 28 163 (kt := fun _ => ?_) (kf := fun _ => ?_)
  · refine aw_iload 4 (kk := ?_)
    exact am_W.drop [true, true, true, true, false, false] (b_Md_merge_j165 F x0 x1 x2 x3 v32 x2 x4 (fun y1 y2 τ => k53 y1 y2 τ) (fun y1 y2 τ => am_W.drop [true, true, true, false, false, false] (h53 y1 y2 τ)) σ31)
  · refine aw_iconst (-1) (v := (-1)) (kk := ?_)
    refine aw_aload_n 0 (kk := ?_)
    refine aw_gA 10 32 154 (hw := wd_1187) (kk := fun v83 => ?_)
    refine aw_iconst (-1) (v := (-1)) (kk := ?_)
    refine aw_iload 4 (kk := ?_)
    refine aw_isub (kk := ?_)
    refine aw_lI (kk := fun v84 => ?_)
    refine aw_aload_n 0 (kk := ?_)
    refine aw_gA 10 32 154 (hw := wd_1187) (kk := fun v85 => ?_)
    refine aw_bipush (-2) (v := (-2)) (kk := ?_)
    refine aw_iload 4 (kk := ?_)
    refine aw_isub (kk := ?_)
    refine aw_lI (kk := fun v86 => ?_)
    refine aw_isub (kk := ?_)
    refine aw_isub (kk := ?_)
    refine aw_goto 5 165 (kk := ?_)
    exact am_W.drop [true, true, true, true, false, false] (b_Md_merge_j165 F x0 x1 x2 x3 v32 x2 ((-1) - (v84 - v86)) (fun y1 y2 τ => k53 y1 y2 τ) (fun y1 y2 τ => am_W.drop [true, true, true, false, false, false] (h53 y1 y2 τ)) σ31)
def f_Md_merge_l53 (F : Nat) (x0 : Nat)  : Nat → Int32 → Int32 → am_S → Option (Int32 × am_S)
  | 0, _, _, _ => none
  | n + 1, x1, x2, σ =>
    (am_gA σ 10 24 x0).bind fun v16 =>
    (am_gI σ 11 4 v16).bind fun v17 =>
    if v17 ≤ x2 then
      some (x1, σ)
    else
      (am_gA σ 10 24 x0).bind fun v18 =>
      (am_gA σ 11 2 v18).bind fun v19 =>
      (am_lI σ .int v19 ((3 * x2) + 1)).bind fun v20 =>
      (am_gA σ 10 24 x0).bind fun v21 =>
      (am_gA σ 11 2 v21).bind fun v22 =>
      (am_lI σ .int v22 (3 * x2)).bind fun v23 =>
      (am_gA σ 10 38 x0).bind fun v24 =>
      (am_gA σ 10 24 x0).bind fun v25 =>
      (f_Ps_take F σ v24 v25 x2).bind fun σ26 =>
      (am_gA σ26 10 40 x0).bind fun v27 =>
      if 0 ≤ v23 then
        f_Md_merge_j127 F x0 x1 x2 v20 v23 v27 x2 0 (fun y1 y2 τ => f_Md_merge_l53 F x0 n y1 y2 τ) σ26
      else
        (am_gA σ26 10 32 x0).bind fun v87 =>
        (am_lI σ26 .int v87 ((-2) - v23)).bind fun v88 =>
        f_Md_merge_j127 F x0 x1 x2 v20 v23 v27 x2 v88 (fun y1 y2 τ => f_Md_merge_l53 F x0 n y1 y2 τ) σ26
theorem b_Md_merge_l53 {g : am_G} {σ0 : am_S} (F : Nat) (x0 : Nat)   : ∀ (n : Nat) (x1 : Int32) (x2 : Int32) (σ : am_S), am_W g mx_Md_merge σ0 53 [some (.ref x0), some (.int x1), some (.int x2), none, none, none] [] σ (f_Md_merge_l53 F x0 n x1 x2 σ) am_kI := by
  intro n
  induction n with
  | zero =>
    intro x1 x2 σ
    rw [f_Md_merge_l53]
    exact am_W.none
  | succ n ih =>
    intro x1 x2 σ
    rw [f_Md_merge_l53]
    refine aw_iload_n 2 (kk := ?_)
    refine aw_aload_n 0 (kk := ?_)
    refine aw_gA 10 24 247 (hw := wd_1179) (kk := fun v16 => ?_)
    refine aw_gI 11 4 129 (hw := wd_1132) (kk := fun v17 => ?_)
    refine aw_icmp_ge 269 330 (kt := fun _ => ?_) (kf := fun _ => ?_)
    · refine aw_iload_n 1 (kk := ?_)
      exact aw_iret
    · refine aw_aload_n 0 (kk := ?_)
      refine aw_gA 10 24 247 (hw := wd_1179) (kk := fun v18 => ?_)
      refine aw_gA 11 2 142 (hw := wd_1128) (kk := fun v19 => ?_)
      refine aw_iconst 3 (v := 3) (kk := ?_)
      refine aw_iload_n 2 (kk := ?_)
      refine aw_imul (kk := ?_)
      refine aw_iconst 1 (v := 1) (kk := ?_)
      refine aw_iadd (kk := ?_)
      refine aw_lI (kk := fun v20 => ?_)
      refine aw_istore_n 3 (kk := ?_)
      refine aw_aload_n 0 (kk := ?_)
      refine aw_gA 10 24 247 (hw := wd_1179) (kk := fun v21 => ?_)
      refine aw_gA 11 2 142 (hw := wd_1128) (kk := fun v22 => ?_)
      refine aw_iconst 3 (v := 3) (kk := ?_)
      refine aw_iload_n 2 (kk := ?_)
      refine aw_imul (kk := ?_)
      refine aw_lI (kk := fun v23 => ?_)
      refine aw_istore 4 (kk := ?_)
      refine aw_aload_n 0 (kk := ?_)
      refine aw_gA 10 38 293 (hw := wd_1193) (kk := fun v24 => ?_)
      refine aw_aload_n 0 (kk := ?_)
      refine aw_gA 10 24 247 (hw := wd_1179) (kk := fun v25 => ?_)
      refine aw_iload_n 2 (kk := ?_)
      refine ac_V (st := []) [.ref v24, .ref v25, .int x2] (ag_V 250 11 rc_Ps_take wd_1362 cal_Ps_take wd_1363 wd_1364) cal_Ps_take ⟨by decide, by decide⟩ (Nat.le_of_ble_eq_true rfl) (m_Ps_take g F σ v24 v25 x2) (fun σ26 => ?_)
      refine aw_aload_n 0 (kk := ?_)
      refine aw_gA 10 40 299 (hw := wd_1195) (kk := fun v27 => ?_)
      refine aw_iload_n 2 (kk := ?_)
      refine aw_iload 4 (kk := ?_)
      refine aw_if_ge 16 126 (kt := fun _ => ?_) (kf := fun _ => ?_)
      · refine aw_iconst 0 (v := 0) (kk := ?_)
        exact am_W.drop [true, true, true, true, true, false] (b_Md_merge_j127 F x0 x1 x2 v20 v23 v27 x2 0 (fun y1 y2 τ => f_Md_merge_l53 F x0 n y1 y2 τ) (fun y1 y2 τ => am_W.drop [true, true, true, false, false, false] (ih y1 y2 τ)) σ26)
      · refine aw_aload_n 0 (kk := ?_)
        refine aw_gA 10 32 154 (hw := wd_1187) (kk := fun v87 => ?_)
        refine aw_bipush (-2) (v := (-2)) (kk := ?_)
        refine aw_iload 4 (kk := ?_)
        refine aw_isub (kk := ?_)
        refine aw_lI (kk := fun v88 => ?_)
        refine aw_goto 4 127 (kk := ?_)
        exact am_W.drop [true, true, true, true, true, false] (b_Md_merge_j127 F x0 x1 x2 v20 v23 v27 x2 v88 (fun y1 y2 τ => f_Md_merge_l53 F x0 n y1 y2 τ) (fun y1 y2 τ => am_W.drop [true, true, true, false, false, false] (ih y1 y2 τ)) σ26)
def f_Md_merge (F : Nat) (σ : am_S) (x0 : Nat) : Option (Int32 × am_S) :=
  am_ck σ 10 x0 (
  (am_pI σ 10 0 x0 0).bind fun σ1 =>
  am_b2 (f_Md_takeAll F σ1 x0) fun v2 σ3 =>
  if v2 = 0 then
    am_bt (f_Md_mergeMaps F σ3 x0) (fun a4 σ5 => if a4 = 1 then
      am_b2 (f_Md_refused F σ5 x0) fun v8 σ9 => some (v8, σ9)
    else none) fun _ σ7 =>
    (am_gA σ7 10 38 x0).bind fun v10 =>
    (f_Ps_clear F σ7 v10).bind fun σ11 =>
    (am_gA σ11 10 39 x0).bind fun v12 =>
    (am_gA σ11 10 30 x0).bind fun v13 =>
    am_b2 (f_Ro_set F σ11 v12 v13) fun v14 σ15 =>
    f_Md_merge_l53 F x0 F 0 0 σ15
  else
    am_b2 (f_Md_bad F σ3 x0) fun v89 σ90 =>
    some (v89, σ90))
theorem rc_Md_merge {F : Nat} {σ : am_S} {x0 : Nat} (h : (f_Md_merge F σ x0).isSome = true) : ∃ fs, σ.2.2 x0 = some (.inr (10, fs)) := am_ck_some h
theorem m_Md_merge (g : am_G) (F : Nat) (σ : am_S) (x0 : Nat) : am_Met g mx_Md_merge [.ref x0] σ ((f_Md_merge F σ x0).bind am_kI) := by
  refine am_Met.of (lv := [some (.ref x0), none, none, none, none, none]) (am_cc rfl am_c0) (Nat.le_of_ble_eq_true rfl) rfl (by decide) ?_
  unfold f_Md_merge
  refine am_W.ck ?_
  refine aw_aload_n 0 (kk := ?_)
  refine aw_iconst 0 (v := 0) (kk := ?_)
  refine aw_pI 10 0 269 (hw := wd_1155) (kk := fun σ1 => ?_)
  refine aw_aload_n 0 (kk := ?_)
  refine ac_I (st := []) [.ref x0] (ag_V 315 10 rc_Md_takeAll wd_1325 cal_Md_takeAll wd_1327 ws_43) cal_Md_takeAll ⟨by decide, by decide⟩ (Nat.le_of_ble_eq_true rfl) (m_Md_takeAll g F σ1 x0) (fun v2 σ3 => ?_)
  refine aw_if_eq 8 17 (kt := fun _ => ?_) (kf := fun _ => ?_)
  · refine aw_aload_n 0 (kk := ?_)
    refine ac_TV (st := []) [.ref x0] (ag_V 334 10 rc_Md_mergeMaps wd_1410 cal_Md_mergeMaps wd_1412 ws_47) cal_Md_mergeMaps ⟨by decide, by decide⟩ (Nat.le_of_ble_eq_true rfl) (m_Md_mergeMaps g F σ3 x0) (fun a4 σ5 => ?_) (fun σ7 => ?_)
    · refine at_cNo (hw := wd_1409) (hw2 := wd_1534) (kk := ?_)
      refine aw_astore_n 1 (kk := ?_)
      refine aw_aload_n 0 (kk := ?_)
      refine ac_I (st := []) [.ref x0] (ag_V 326 10 rc_Md_refused wd_1381 cal_Md_refused wd_1383 ws_46) cal_Md_refused ⟨by decide, by decide⟩ (Nat.le_of_ble_eq_true rfl) (m_Md_refused g F σ5 x0) (fun v8 σ9 => ?_)
      exact aw_iret
    refine aw_goto 9 30 (kk := ?_)
    refine aw_aload_n 0 (kk := ?_)
    refine aw_gA 10 38 293 (hw := wd_1193) (kk := fun v10 => ?_)
    refine ac_V (st := []) [.ref v10] (ag_V 223 11 rc_Ps_clear wd_1147 cal_Ps_clear wd_1148 wd_1149) cal_Ps_clear ⟨by decide, by decide⟩ (Nat.le_of_ble_eq_true rfl) (m_Ps_clear g F σ7 v10) (fun σ11 => ?_)
    refine aw_aload_n 0 (kk := ?_)
    refine aw_gA 10 39 296 (hw := wd_1194) (kk := fun v12 => ?_)
    refine aw_aload_n 0 (kk := ?_)
    refine aw_gA 10 30 151 (hw := wd_1185) (kk := fun v13 => ?_)
    refine ac_A (st := []) [.ref v12, .ref v13] (ag_V 112 12 rc_Ro_set wd_1307 cal_Ro_set wd_1308 wd_1309) cal_Ro_set ⟨by decide, by decide⟩ (Nat.le_of_ble_eq_true rfl) (m_Ro_set g F σ11 v12 v13) (fun v14 σ15 => ?_)
    refine aw_pop (kk := ?_)
    refine aw_iconst 0 (v := 0) (kk := ?_)
    refine aw_istore_n 1 (kk := ?_)
    refine aw_iconst 0 (v := 0) (kk := ?_)
    refine aw_istore_n 2 (kk := ?_)
    exact am_W.drop [true, true, true, false, false, false] (b_Md_merge_l53 F x0 F 0 0 σ15)
  · refine aw_aload_n 0 (kk := ?_)
    refine ac_I (st := []) [.ref x0] (ag_V 305 10 rc_Md_bad wd_1291 cal_Md_bad wd_1293 ws_42) cal_Md_bad ⟨by decide, by decide⟩ (Nat.le_of_ble_eq_true rfl) (m_Md_bad g F σ3 x0) (fun v89 σ90 => ?_)
    exact aw_iret
def f_Md_seenLength (F : Nat) (σ : am_S) (x0 : Nat) (x1 : Int32) : Option (Int32) :=
  am_ck σ 10 x0 (
  (am_gA σ 10 41 x0).bind fun v1 =>
  (am_lI σ .int v1 x1).bind fun v2 =>
  if 0 ≤ v2 then
    (am_gA σ 10 3 x0).bind fun v3 =>
    (am_gA σ 10 41 x0).bind fun v4 =>
    (am_lI σ .int v4 x1).bind fun v5 =>
    (am_lI σ .int v3 (v5 + 1)).bind fun v6 =>
    (am_gA σ 10 3 x0).bind fun v7 =>
    (am_gA σ 10 41 x0).bind fun v8 =>
    (am_lI σ .int v8 x1).bind fun v9 =>
    (am_lI σ .int v7 v9).bind fun v10 =>
    some (v6 - v10)
  else
    (am_gA σ 10 41 x0).bind fun v11 =>
    (am_lI σ .int v11 x1).bind fun v12 =>
    some ((-1) - v12))
theorem rc_Md_seenLength {F : Nat} {σ : am_S} {x0 : Nat} {x1 : Int32} (h : (f_Md_seenLength F σ x0 x1).isSome = true) : ∃ fs, σ.2.2 x0 = some (.inr (10, fs)) := am_ck_some h
theorem m_Md_seenLength (g : am_G) (F : Nat) (σ : am_S) (x0 : Nat) (x1 : Int32) : am_Met g mx_Md_seenLength [.ref x0, .int x1] σ ((f_Md_seenLength F σ x0 x1).bind (am_kPI σ)) := by
  refine am_Met.of (lv := [some (.ref x0), some (.int x1)]) (am_cc rfl (am_cc rfl am_c0)) (Nat.le_of_ble_eq_true rfl) rfl (by decide) ?_
  unfold f_Md_seenLength
  refine am_W.ck ?_
  refine aw_aload_n 0 (kk := ?_)
  refine aw_gA 10 41 302 (hw := wd_1196) (kk := fun v1 => ?_)
  refine aw_iload_n 1 (kk := ?_)
  refine aw_lI (kk := fun v2 => ?_)
  refine aw_if_ge 14 20 (kt := fun _ => ?_) (kf := fun _ => ?_)
  · refine aw_aload_n 0 (kk := ?_)
    refine aw_gA 10 3 24 (hw := wd_1158) (kk := fun v3 => ?_)
    refine aw_aload_n 0 (kk := ?_)
    refine aw_gA 10 41 302 (hw := wd_1196) (kk := fun v4 => ?_)
    refine aw_iload_n 1 (kk := ?_)
    refine aw_lI (kk := fun v5 => ?_)
    refine aw_iconst 1 (v := 1) (kk := ?_)
    refine aw_iadd (kk := ?_)
    refine aw_lI (kk := fun v6 => ?_)
    refine aw_aload_n 0 (kk := ?_)
    refine aw_gA 10 3 24 (hw := wd_1158) (kk := fun v7 => ?_)
    refine aw_aload_n 0 (kk := ?_)
    refine aw_gA 10 41 302 (hw := wd_1196) (kk := fun v8 => ?_)
    refine aw_iload_n 1 (kk := ?_)
    refine aw_lI (kk := fun v9 => ?_)
    refine aw_lI (kk := fun v10 => ?_)
    refine aw_isub (kk := ?_)
    exact aw_iretP
  · refine aw_iconst (-1) (v := (-1)) (kk := ?_)
    refine aw_aload_n 0 (kk := ?_)
    refine aw_gA 10 41 302 (hw := wd_1196) (kk := fun v11 => ?_)
    refine aw_iload_n 1 (kk := ?_)
    refine aw_lI (kk := fun v12 => ?_)
    refine aw_isub (kk := ?_)
    refine aw_goto 28 45 (kk := ?_)
    exact aw_iretP
def f_Md_renamed_j38 (F : Nat) (x0 : Nat)  (σ : am_S) : Option (Int32 × am_S) :=
  am_b2 (f_Md_bad F σ x0) fun v3 σ4 =>
  some (v3, σ4)
theorem b_Md_renamed_j38 {g : am_G} {σ0 : am_S} (F : Nat) (x0 : Nat)   (σ : am_S) : am_W g mx_Md_renamed σ0 38 [some (.ref x0), none, none, none, none, none, none] [] σ (f_Md_renamed_j38 F x0 σ) am_kI := by
  unfold f_Md_renamed_j38
  refine aw_aload_n 0 (kk := ?_)
  refine ac_I (st := []) [.ref x0] (ag_V 305 10 rc_Md_bad wd_1291 cal_Md_bad wd_1293 ws_42) cal_Md_bad ⟨by decide, by decide⟩ (Nat.le_of_ble_eq_true rfl) (m_Md_bad g F σ x0) (fun v3 σ4 => ?_)
  exact aw_iret
def f_Md_renamed_l73 (F : Nat) (x0 : Nat) (x1 : Int32) (x3 : Int32) (k149 : am_S → Option (Int32 × am_S)) (k106 : Int32 → am_S → Option (Int32 × am_S)) : Nat → Int32 → Int32 → am_S → Option (Int32 × am_S)
  | 0, _, _, _ => none
  | n + 1, x5, x6, σ =>
    (am_gA σ 10 1 x0).bind fun v14 =>
    (am_lA σ 11 v14 x1).bind fun v15 =>
    (am_gI σ 11 4 v15).bind fun v16 =>
    if v16 ≤ x6 then
      k149 σ
    else
      (am_gA σ 10 25 x0).bind fun v17 =>
      (am_lI σ .int v17 x6).bind fun v18 =>
      if 0 ≤ v18 then
        if x5 = x3 then
          k106 x6 σ
        else
          f_Md_renamed_l73 F x0 x1 x3 k149 k106 n (x5 + 1) (x6 + 1) σ
      else
        f_Md_renamed_l73 F x0 x1 x3 k149 k106 n x5 (x6 + 1) σ
theorem b_Md_renamed_l73 {g : am_G} {σ0 : am_S} (F : Nat) (x0 : Nat) (x1 : Int32) (x3 : Int32) (x4 : Int32) (k149 : am_S → Option (Int32 × am_S)) (k106 : Int32 → am_S → Option (Int32 × am_S)) (h149 : ∀ (τ : am_S), am_W g mx_Md_renamed σ0 149 [some (.ref x0), none, none, none, none, none, none] [] τ (k149 τ) am_kI) (h106 : ∀ (y6 : Int32)  (τ : am_S), am_W g mx_Md_renamed σ0 106 [some (.ref x0), none, none, none, some (.int x4), none, some (.int y6)] [] τ (k106 y6 τ) am_kI) : ∀ (n : Nat) (x5 : Int32) (x6 : Int32) (σ : am_S), am_W g mx_Md_renamed σ0 73 [some (.ref x0), some (.int x1), none, some (.int x3), some (.int x4), some (.int x5), some (.int x6)] [] σ (f_Md_renamed_l73 F x0 x1 x3 k149 k106 n x5 x6 σ) am_kI := by
  intro n
  induction n with
  | zero =>
    intro x5 x6 σ
    rw [f_Md_renamed_l73]
    exact am_W.none
  | succ n ih =>
    intro x5 x6 σ
    rw [f_Md_renamed_l73]
    refine aw_iload 6 (kk := ?_)
    refine aw_aload_n 0 (kk := ?_)
    refine aw_gA 10 1 278 (hw := wd_1156) (kk := fun v14 => ?_)
    refine aw_iload_n 1 (kk := ?_)
    refine aw_lA 11 (kk := fun v15 => ?_)
    refine aw_gI 11 4 129 (hw := wd_1132) (kk := fun v16 => ?_)
    refine aw_icmp_ge 65 149 (kt := fun _ => ?_) (kf := fun _ => ?_)
    · exact am_W.drop [true, false, false, false, false, false, false] (h149 σ)
    · refine aw_aload_n 0 (kk := ?_)
      refine aw_gA 10 25 224 (hw := wd_1180) (kk := fun v17 => ?_)
      refine aw_iload 6 (kk := ?_)
      refine aw_lI (kk := fun v18 => ?_)
      refine aw_if_ge 6 100 (kt := fun _ => ?_) (kf := fun _ => ?_)
      · refine aw_iload 5 (kk := ?_)
        refine aw_iload_n 3 (kk := ?_)
        refine aw_icmp_ne 37 140 (kt := fun _ => ?_) (kf := fun _ => ?_)
        · refine aw_iinc 5 1 (v := 1) (kk := ?_)
          refine aw_iinc 6 1 (v := 1) (kk := ?_)
          refine aw_goto (-73) 73 (kk := ?_)
          exact am_W.drop [true, true, false, true, true, true, true] (ih (x5 + 1) (x6 + 1) σ)
        · exact am_W.drop [true, false, false, false, true, false, true] (h106 x6 σ)
      · refine aw_goto 46 143 (kk := ?_)
        refine aw_iinc 6 1 (v := 1) (kk := ?_)
        refine aw_goto (-73) 73 (kk := ?_)
        exact am_W.drop [true, true, false, true, true, true, true] (ih x5 (x6 + 1) σ)
def f_Md_renamed_j149 (F : Nat) (x0 : Nat)  (σ : am_S) : Option (Int32 × am_S) :=
  am_b2 (f_Md_refused F σ x0) fun v19 σ20 =>
  some (v19, σ20)
theorem b_Md_renamed_j149 {g : am_G} {σ0 : am_S} (F : Nat) (x0 : Nat)   (σ : am_S) : am_W g mx_Md_renamed σ0 149 [some (.ref x0), none, none, none, none, none, none] [] σ (f_Md_renamed_j149 F x0 σ) am_kI := by
  unfold f_Md_renamed_j149
  refine aw_aload_n 0 (kk := ?_)
  refine ac_I (st := []) [.ref x0] (ag_V 326 10 rc_Md_refused wd_1381 cal_Md_refused wd_1383 ws_46) cal_Md_refused ⟨by decide, by decide⟩ (Nat.le_of_ble_eq_true rfl) (m_Md_refused g F σ x0) (fun v19 σ20 => ?_)
  exact aw_iret
def f_Md_renamed_j106 (F : Nat) (x0 : Nat) (x4 : Int32) (x6 : Int32)  (σ : am_S) : Option (Int32 × am_S) :=
  if x4 = 0 then
    some (x6, σ)
  else
    if x4 = 1 then
      (am_gA σ 10 25 x0).bind fun v23 =>
      (am_lI σ .int v23 x6).bind fun v24 =>
      some (v24, σ)
    else
      (am_gA σ 10 27 x0).bind fun v21 =>
      (am_lI σ .int v21 x6).bind fun v22 =>
      some (v22, σ)
theorem b_Md_renamed_j106 {g : am_G} {σ0 : am_S} (F : Nat) (x0 : Nat) (x4 : Int32) (x6 : Int32)   (σ : am_S) : am_W g mx_Md_renamed σ0 106 [some (.ref x0), none, none, none, some (.int x4), none, some (.int x6)] [] σ (f_Md_renamed_j106 F x0 x4 x6 σ) am_kI := by
  unfold f_Md_renamed_j106
  refine aw_iload 4 (kk := ?_)
  refine aw_if_ne 8 116 (kt := fun _ => ?_) (kf := fun _ => ?_)
  · refine aw_iload 4 (kk := ?_)
    refine aw_iconst 1 (v := 1) (kk := ?_)
    refine aw_icmp_ne 13 132 (kt := fun _ => ?_) (kf := fun _ => ?_)
    · refine aw_aload_n 0 (kk := ?_)
      refine aw_gA 10 27 227 (hw := wd_1182) (kk := fun v21 => ?_)
      refine aw_iload 6 (kk := ?_)
      refine aw_lI (kk := fun v22 => ?_)
      exact aw_iret
    · refine aw_aload_n 0 (kk := ?_)
      refine aw_gA 10 25 224 (hw := wd_1180) (kk := fun v23 => ?_)
      refine aw_iload 6 (kk := ?_)
      refine aw_lI (kk := fun v24 => ?_)
      refine aw_goto 10 139 (kk := ?_)
      exact aw_iret
  · refine aw_iload 6 (kk := ?_)
    refine aw_goto 26 139 (kk := ?_)
    exact aw_iret
def f_Md_renamed (F : Nat) (σ : am_S) (x0 : Nat) (x1 : Int32) (x2 : Int32) (x3 : Int32) (x4 : Int32) : Option (Int32 × am_S) :=
  am_ck σ 10 x0 (
  (am_pI σ 10 0 x0 0).bind fun σ1 =>
  (f_Md_in F σ1 x1 0 2).bind fun v2 =>
  if v2 = 0 then
    f_Md_renamed_j38 F x0 σ1
  else
    (f_Md_in F σ1 x2 0 2).bind fun v5 =>
    if v5 = 0 then
      f_Md_renamed_j38 F x0 σ1
    else
      if x1 = x2 then
        f_Md_renamed_j38 F x0 σ1
      else
        (f_Md_in F σ1 x4 0 2).bind fun v6 =>
        if v6 = 0 then
          f_Md_renamed_j38 F x0 σ1
        else
          (am_gA σ1 10 1 x0).bind fun v7 =>
          (am_lA σ1 11 v7 x1).bind fun v8 =>
          (am_gA σ1 10 1 x0).bind fun v9 =>
          (am_lA σ1 11 v9 x2).bind fun v10 =>
          (am_gA σ1 10 25 x0).bind fun v11 =>
          (am_gA σ1 10 27 x0).bind fun v12 =>
          (f_Md_renames F σ1 x0 v8 v10 v11 v12).bind fun σ13 =>
          f_Md_renamed_l73 F x0 x1 x3 (fun τ => f_Md_renamed_j149 F x0 τ) (fun y6 τ => f_Md_renamed_j106 F x0 x4 y6 τ) F 0 0 σ13)
theorem rc_Md_renamed {F : Nat} {σ : am_S} {x0 : Nat} {x1 : Int32} {x2 : Int32} {x3 : Int32} {x4 : Int32} (h : (f_Md_renamed F σ x0 x1 x2 x3 x4).isSome = true) : ∃ fs, σ.2.2 x0 = some (.inr (10, fs)) := am_ck_some h
theorem m_Md_renamed (g : am_G) (F : Nat) (σ : am_S) (x0 : Nat) (x1 : Int32) (x2 : Int32) (x3 : Int32) (x4 : Int32) : am_Met g mx_Md_renamed [.ref x0, .int x1, .int x2, .int x3, .int x4] σ ((f_Md_renamed F σ x0 x1 x2 x3 x4).bind am_kI) := by
  refine am_Met.of (lv := [some (.ref x0), some (.int x1), some (.int x2), some (.int x3), some (.int x4), none, none]) (am_cc rfl (am_cc rfl (am_cc rfl (am_cc rfl (am_cc rfl am_c0))))) (Nat.le_of_ble_eq_true rfl) rfl (by decide) ?_
  unfold f_Md_renamed
  refine am_W.ck ?_
  refine aw_aload_n 0 (kk := ?_)
  refine aw_iconst 0 (v := 0) (kk := ?_)
  refine aw_pI 10 0 269 (hw := wd_1155) (kk := fun σ1 => ?_)
  refine aw_iload_n 1 (kk := ?_)
  refine aw_iconst 0 (v := 0) (kk := ?_)
  refine aw_iconst 2 (v := 2) (kk := ?_)
  refine ac_PI (st := []) [.int x1, .int 0, .int 2] (ag_S 258 wd_1329 cal_Md_in wd_1330) cal_Md_in ⟨by decide, by decide⟩ (Nat.le_of_ble_eq_true rfl) (m_Md_in g F σ1 x1 0 2) (fun v2 => ?_)
  refine aw_if_eq 27 38 (kt := fun _ => ?_) (kf := fun _ => ?_)
  · exact am_W.drop [true, false, false, false, false, false, false] (b_Md_renamed_j38 F x0 σ1)
  · refine aw_iload_n 2 (kk := ?_)
    refine aw_iconst 0 (v := 0) (kk := ?_)
    refine aw_iconst 2 (v := 2) (kk := ?_)
    refine ac_PI (st := []) [.int x2, .int 0, .int 2] (ag_S 258 wd_1329 cal_Md_in wd_1330) cal_Md_in ⟨by decide, by decide⟩ (Nat.le_of_ble_eq_true rfl) (m_Md_in g F σ1 x2 0 2) (fun v5 => ?_)
    refine aw_if_eq 18 38 (kt := fun _ => ?_) (kf := fun _ => ?_)
    · exact am_W.drop [true, false, false, false, false, false, false] (b_Md_renamed_j38 F x0 σ1)
    · refine aw_iload_n 1 (kk := ?_)
      refine aw_iload_n 2 (kk := ?_)
      refine aw_icmp_eq 13 38 (kt := fun _ => ?_) (kf := fun _ => ?_)
      · exact am_W.drop [true, false, false, false, false, false, false] (b_Md_renamed_j38 F x0 σ1)
      · refine aw_iload 4 (kk := ?_)
        refine aw_iconst 0 (v := 0) (kk := ?_)
        refine aw_iconst 2 (v := 2) (kk := ?_)
        refine ac_PI (st := []) [.int x4, .int 0, .int 2] (ag_S 258 wd_1329 cal_Md_in wd_1330) cal_Md_in ⟨by decide, by decide⟩ (Nat.le_of_ble_eq_true rfl) (m_Md_in g F σ1 x4 0 2) (fun v6 => ?_)
        refine aw_if_ne 8 43 (kt := fun _ => ?_) (kf := fun _ => ?_)
        · refine aw_aload_n 0 (kk := ?_)
          refine aw_aload_n 0 (kk := ?_)
          refine aw_gA 10 1 278 (hw := wd_1156) (kk := fun v7 => ?_)
          refine aw_iload_n 1 (kk := ?_)
          refine aw_lA 11 (kk := fun v8 => ?_)
          refine aw_aload_n 0 (kk := ?_)
          refine aw_gA 10 1 278 (hw := wd_1156) (kk := fun v9 => ?_)
          refine aw_iload_n 2 (kk := ?_)
          refine aw_lA 11 (kk := fun v10 => ?_)
          refine aw_aload_n 0 (kk := ?_)
          refine aw_gA 10 25 224 (hw := wd_1180) (kk := fun v11 => ?_)
          refine aw_aload_n 0 (kk := ?_)
          refine aw_gA 10 27 227 (hw := wd_1182) (kk := fun v12 => ?_)
          refine ac_V (st := []) [.ref x0, .ref v8, .ref v10, .ref v11, .ref v12] (ag_V 230 10 rc_Md_renames wd_1414 cal_Md_renames wd_1416 ws_48) cal_Md_renames ⟨by decide, by decide⟩ (Nat.le_of_ble_eq_true rfl) (m_Md_renames g F σ1 x0 v8 v10 v11 v12) (fun σ13 => ?_)
          refine aw_iconst 0 (v := 0) (kk := ?_)
          refine aw_istore 5 (kk := ?_)
          refine aw_iconst 0 (v := 0) (kk := ?_)
          refine aw_istore 6 (kk := ?_)
          exact am_W.drop [true, true, false, true, true, true, true] (b_Md_renamed_l73 F x0 x1 x3 x4 (fun τ => f_Md_renamed_j149 F x0 τ) (fun y6 τ => f_Md_renamed_j106 F x0 x4 y6 τ) (fun τ => am_W.drop [true, false, false, false, false, false, false] (b_Md_renamed_j149 F x0 τ)) (fun y6 τ => am_W.drop [true, false, false, false, true, false, true] (b_Md_renamed_j106 F x0 x4 y6 τ)) F 0 0 σ13)
        · exact am_W.drop [true, false, false, false, false, false, false] (b_Md_renamed_j38 F x0 σ1)
def f_Md_outcomeb_j35 (F : Nat) (x0 : Nat)  (σ : am_S) : Option (Int32 × am_S) :=
  am_b2 (f_Md_refused F σ x0) fun v3 σ4 =>
  some (v3, σ4)
theorem b_Md_outcomeb_j35 {g : am_G} {σ0 : am_S} (F : Nat) (x0 : Nat)   (σ : am_S) : am_W g mx_Md_outcomeb σ0 35 [some (.ref x0), none, none] [] σ (f_Md_outcomeb_j35 F x0 σ) am_kI := by
  unfold f_Md_outcomeb_j35
  refine aw_aload_n 0 (kk := ?_)
  refine ac_I (st := []) [.ref x0] (ag_V 326 10 rc_Md_refused wd_1381 cal_Md_refused wd_1383 ws_46) cal_Md_refused ⟨by decide, by decide⟩ (Nat.le_of_ble_eq_true rfl) (m_Md_refused g F σ x0) (fun v3 σ4 => ?_)
  exact aw_iret
def f_Md_outcomeb (F : Nat) (σ : am_S) (x0 : Nat) (x1 : Int32) (x2 : Int32) : Option (Int32 × am_S) :=
  am_ck σ 10 x0 (
  (am_pI σ 10 0 x0 0).bind fun σ1 =>
  (f_Md_in F σ1 x2 0 6).bind fun v2 =>
  if v2 = 0 then
    am_b2 (f_Md_bad F σ1 x0) fun v36 σ37 =>
    some (v36, σ37)
  else
    if x1 < 0 then
      f_Md_outcomeb_j35 F x0 σ1
    else
      (am_gA σ1 10 38 x0).bind fun v5 =>
      (am_gI σ1 11 4 v5).bind fun v6 =>
      if x1 < v6 then
        if x2 = 0 then
          (am_gA σ1 10 38 x0).bind fun v8 =>
          (f_Ps_length F σ1 v8 x1).bind fun v9 =>
          some (v9, σ1)
        else
        if x2 = 1 then
          (am_gA σ1 10 38 x0).bind fun v11 =>
          (am_gA σ1 11 3 v11).bind fun v12 =>
          (am_lI σ1 .boolean v12 x1).bind fun v13 =>
          if v13 = 0 then
            some (0, σ1)
          else
            some (1, σ1)
        else
        if x2 = 2 then
          (f_Md_seenLength F σ1 x0 x1).bind fun v15 =>
          some (v15, σ1)
        else
        if x2 = 3 then
          (am_gA σ1 10 38 x0).bind fun v17 =>
          (am_gA σ1 11 2 v17).bind fun v18 =>
          (am_lI σ1 .int v18 (((3 * x1) + x2) - 3)).bind fun v19 =>
          some (v19, σ1)
        else
        if x2 = 4 then
          (am_gA σ1 10 38 x0).bind fun v21 =>
          (am_gA σ1 11 2 v21).bind fun v22 =>
          (am_lI σ1 .int v22 (((3 * x1) + x2) - 3)).bind fun v23 =>
          some (v23, σ1)
        else
        if x2 = 5 then
          (am_gA σ1 10 38 x0).bind fun v25 =>
          (am_gA σ1 11 2 v25).bind fun v26 =>
          (am_lI σ1 .int v26 (((3 * x1) + x2) - 3)).bind fun v27 =>
          some (v27, σ1)
        else
        if x2 = 6 then
          (am_gA σ1 10 41 x0).bind fun v29 =>
          (am_lI σ1 .int v29 x1).bind fun v30 =>
          if 0 ≤ v30 then
            (am_gA σ1 10 41 x0).bind fun v31 =>
            (am_lI σ1 .int v31 x1).bind fun v32 =>
            some (v32, σ1)
          else
            some ((-1), σ1)
        else
        (am_gA σ1 10 38 x0).bind fun v33 =>
        (am_gA σ1 11 2 v33).bind fun v34 =>
        (am_lI σ1 .int v34 (((3 * x1) + x2) - 3)).bind fun v35 =>
        some (v35, σ1)
      else
        f_Md_outcomeb_j35 F x0 σ1)
theorem rc_Md_outcomeb {F : Nat} {σ : am_S} {x0 : Nat} {x1 : Int32} {x2 : Int32} (h : (f_Md_outcomeb F σ x0 x1 x2).isSome = true) : ∃ fs, σ.2.2 x0 = some (.inr (10, fs)) := am_ck_some h
theorem m_Md_outcomeb (g : am_G) (F : Nat) (σ : am_S) (x0 : Nat) (x1 : Int32) (x2 : Int32) : am_Met g mx_Md_outcomeb [.ref x0, .int x1, .int x2] σ ((f_Md_outcomeb F σ x0 x1 x2).bind am_kI) := by
  refine am_Met.of (lv := [some (.ref x0), some (.int x1), some (.int x2)]) (am_cc rfl (am_cc rfl (am_cc rfl am_c0))) (Nat.le_of_ble_eq_true rfl) rfl (by decide) ?_
  unfold f_Md_outcomeb
  refine am_W.ck ?_
  refine aw_aload_n 0 (kk := ?_)
  refine aw_iconst 0 (v := 0) (kk := ?_)
  refine aw_pI 10 0 269 (hw := wd_1155) (kk := fun σ1 => ?_)
  refine aw_iload_n 2 (kk := ?_)
  refine aw_iconst 0 (v := 0) (kk := ?_)
  refine aw_bipush 6 (v := 6) (kk := ?_)
  refine ac_PI (st := []) [.int x2, .int 0, .int 6] (ag_S 258 wd_1329 cal_Md_in wd_1330) cal_Md_in ⟨by decide, by decide⟩ (Nat.le_of_ble_eq_true rfl) (m_Md_in g F σ1 x2 0 6) (fun v2 => ?_)
  refine aw_if_ne 8 20 (kt := fun _ => ?_) (kf := fun _ => ?_)
  · refine aw_iload_n 1 (kk := ?_)
    refine aw_if_lt 14 35 (kt := fun _ => ?_) (kf := fun _ => ?_)
    · exact am_W.drop [true, false, false] (b_Md_outcomeb_j35 F x0 σ1)
    · refine aw_iload_n 1 (kk := ?_)
      refine aw_aload_n 0 (kk := ?_)
      refine aw_gA 10 38 293 (hw := wd_1193) (kk := fun v5 => ?_)
      refine aw_gI 11 4 129 (hw := wd_1132) (kk := fun v6 => ?_)
      refine aw_icmp_lt 8 40 (kt := fun _ => ?_) (kf := fun _ => ?_)
      · refine aw_iload_n 2 (kk := ?_)
        refine am_W.ite (fun h7 => ?_) (fun h7 => ?_)
        · refine aw_tsIn 96 0 6 #[43, 52, 70, 96, 96, 96, 76] 43 84 43 (h1 := by rw [h7]; decide) (h2 := by rw [h7]; decide) (ho := by rw [h7]; decide) (kk := ?_)
          refine aw_aload_n 0 (kk := ?_)
          refine aw_gA 10 38 293 (hw := wd_1193) (kk := fun v8 => ?_)
          refine aw_iload_n 1 (kk := ?_)
          refine ac_PI (st := []) [.ref v8, .int x1] (ag_V 339 11 rc_Ps_length wd_1515 cal_Ps_length wd_1358 wd_1359) cal_Ps_length ⟨by decide, by decide⟩ (Nat.le_of_ble_eq_true rfl) (m_Ps_length g F σ1 v8 x1) (fun v9 => ?_)
          exact aw_iret
        refine am_W.ite (fun h10 => ?_) (fun h10 => ?_)
        · refine aw_tsIn 96 0 6 #[43, 52, 70, 96, 96, 96, 76] 43 93 52 (h1 := by rw [h10]; decide) (h2 := by rw [h10]; decide) (ho := by rw [h10]; decide) (kk := ?_)
          refine aw_aload_n 0 (kk := ?_)
          refine aw_gA 10 38 293 (hw := wd_1193) (kk := fun v11 => ?_)
          refine aw_gA 11 3 183 (hw := wd_1130) (kk := fun v12 => ?_)
          refine aw_iload_n 1 (kk := ?_)
          refine aw_lZ (kk := fun v13 => ?_)
          refine aw_if_eq 7 109 (kt := fun _ => ?_) (kf := fun _ => ?_)
          · refine aw_iconst 0 (v := 0) (kk := ?_)
            exact aw_iret
          · refine aw_iconst 1 (v := 1) (kk := ?_)
            refine aw_goto 4 110 (kk := ?_)
            exact aw_iret
        refine am_W.ite (fun h14 => ?_) (fun h14 => ?_)
        · refine aw_tsIn 96 0 6 #[43, 52, 70, 96, 96, 96, 76] 43 111 70 (h1 := by rw [h14]; decide) (h2 := by rw [h14]; decide) (ho := by rw [h14]; decide) (kk := ?_)
          refine aw_aload_n 0 (kk := ?_)
          refine aw_iload_n 1 (kk := ?_)
          refine ac_PI (st := []) [.ref x0, .int x1] (ag_V 342 10 rc_Md_seenLength wd_1516 cal_Md_seenLength wd_1518 ws_64) cal_Md_seenLength ⟨by decide, by decide⟩ (Nat.le_of_ble_eq_true rfl) (m_Md_seenLength g F σ1 x0 x1) (fun v15 => ?_)
          exact aw_iret
        refine am_W.ite (fun h16 => ?_) (fun h16 => ?_)
        · refine aw_tsIn 96 0 6 #[43, 52, 70, 96, 96, 96, 76] 43 137 96 (h1 := by rw [h16]; decide) (h2 := by rw [h16]; decide) (ho := by rw [h16]; decide) (kk := ?_)
          refine aw_aload_n 0 (kk := ?_)
          refine aw_gA 10 38 293 (hw := wd_1193) (kk := fun v17 => ?_)
          refine aw_gA 11 2 142 (hw := wd_1128) (kk := fun v18 => ?_)
          refine aw_iconst 3 (v := 3) (kk := ?_)
          refine aw_iload_n 1 (kk := ?_)
          refine aw_imul (kk := ?_)
          refine aw_iload_n 2 (kk := ?_)
          refine aw_iadd (kk := ?_)
          refine aw_iconst 3 (v := 3) (kk := ?_)
          refine aw_isub (kk := ?_)
          refine aw_lI (kk := fun v19 => ?_)
          exact aw_iret
        refine am_W.ite (fun h20 => ?_) (fun h20 => ?_)
        · refine aw_tsIn 96 0 6 #[43, 52, 70, 96, 96, 96, 76] 43 137 96 (h1 := by rw [h20]; decide) (h2 := by rw [h20]; decide) (ho := by rw [h20]; decide) (kk := ?_)
          refine aw_aload_n 0 (kk := ?_)
          refine aw_gA 10 38 293 (hw := wd_1193) (kk := fun v21 => ?_)
          refine aw_gA 11 2 142 (hw := wd_1128) (kk := fun v22 => ?_)
          refine aw_iconst 3 (v := 3) (kk := ?_)
          refine aw_iload_n 1 (kk := ?_)
          refine aw_imul (kk := ?_)
          refine aw_iload_n 2 (kk := ?_)
          refine aw_iadd (kk := ?_)
          refine aw_iconst 3 (v := 3) (kk := ?_)
          refine aw_isub (kk := ?_)
          refine aw_lI (kk := fun v23 => ?_)
          exact aw_iret
        refine am_W.ite (fun h24 => ?_) (fun h24 => ?_)
        · refine aw_tsIn 96 0 6 #[43, 52, 70, 96, 96, 96, 76] 43 137 96 (h1 := by rw [h24]; decide) (h2 := by rw [h24]; decide) (ho := by rw [h24]; decide) (kk := ?_)
          refine aw_aload_n 0 (kk := ?_)
          refine aw_gA 10 38 293 (hw := wd_1193) (kk := fun v25 => ?_)
          refine aw_gA 11 2 142 (hw := wd_1128) (kk := fun v26 => ?_)
          refine aw_iconst 3 (v := 3) (kk := ?_)
          refine aw_iload_n 1 (kk := ?_)
          refine aw_imul (kk := ?_)
          refine aw_iload_n 2 (kk := ?_)
          refine aw_iadd (kk := ?_)
          refine aw_iconst 3 (v := 3) (kk := ?_)
          refine aw_isub (kk := ?_)
          refine aw_lI (kk := fun v27 => ?_)
          exact aw_iret
        refine am_W.ite (fun h28 => ?_) (fun h28 => ?_)
        · refine aw_tsIn 96 0 6 #[43, 52, 70, 96, 96, 96, 76] 43 117 76 (h1 := by rw [h28]; decide) (h2 := by rw [h28]; decide) (ho := by rw [h28]; decide) (kk := ?_)
          refine aw_aload_n 0 (kk := ?_)
          refine aw_gA 10 41 302 (hw := wd_1196) (kk := fun v29 => ?_)
          refine aw_iload_n 1 (kk := ?_)
          refine aw_lI (kk := fun v30 => ?_)
          refine aw_if_ge 7 130 (kt := fun _ => ?_) (kf := fun _ => ?_)
          · refine aw_aload_n 0 (kk := ?_)
            refine aw_gA 10 41 302 (hw := wd_1196) (kk := fun v31 => ?_)
            refine aw_iload_n 1 (kk := ?_)
            refine aw_lI (kk := fun v32 => ?_)
            exact aw_iret
          · refine aw_iconst (-1) (v := (-1)) (kk := ?_)
            refine aw_goto 9 136 (kk := ?_)
            exact aw_iret
        refine aw_tsOut 96 0 6 #[43, 52, 70, 96, 96, 96, 76] 43 137 (h := am_tsout fun z q1 q2 => ?_) (kk := ?_)
        · have hz : z = 0 ∨ z = 1 ∨ z = 2 ∨ z = 3 ∨ z = 4 ∨ z = 5 ∨ z = 6 := by omega
          rcases hz with hz | hz | hz | hz | hz | hz | hz
          · rw [hz]; exact am_neI h7 (by decide)
          · rw [hz]; exact am_neI h10 (by decide)
          · rw [hz]; exact am_neI h14 (by decide)
          · rw [hz]; exact am_neI h16 (by decide)
          · rw [hz]; exact am_neI h20 (by decide)
          · rw [hz]; exact am_neI h24 (by decide)
          · rw [hz]; exact am_neI h28 (by decide)
        · refine aw_aload_n 0 (kk := ?_)
          refine aw_gA 10 38 293 (hw := wd_1193) (kk := fun v33 => ?_)
          refine aw_gA 11 2 142 (hw := wd_1128) (kk := fun v34 => ?_)
          refine aw_iconst 3 (v := 3) (kk := ?_)
          refine aw_iload_n 1 (kk := ?_)
          refine aw_imul (kk := ?_)
          refine aw_iload_n 2 (kk := ?_)
          refine aw_iadd (kk := ?_)
          refine aw_iconst 3 (v := 3) (kk := ?_)
          refine aw_isub (kk := ?_)
          refine aw_lI (kk := fun v35 => ?_)
          exact aw_iret
      · exact am_W.drop [true, false, false] (b_Md_outcomeb_j35 F x0 σ1)
  · refine aw_aload_n 0 (kk := ?_)
    refine ac_I (st := []) [.ref x0] (ag_V 305 10 rc_Md_bad wd_1291 cal_Md_bad wd_1293 ws_42) cal_Md_bad ⟨by decide, by decide⟩ (Nat.le_of_ble_eq_true rfl) (m_Md_bad g F σ1 x0) (fun v36 σ37 => ?_)
    exact aw_iret
def f_Md_letter_j62 (F : Nat) (x0 : Nat)  (σ : am_S) : Option (Int32 × am_S) :=
  am_b2 (f_Md_refused F σ x0) fun v3 σ4 =>
  some (v3, σ4)
theorem b_Md_letter_j62 {g : am_G} {σ0 : am_S} (F : Nat) (x0 : Nat)   (σ : am_S) : am_W g mx_Md_letter σ0 62 [some (.ref x0), none, none, none] [] σ (f_Md_letter_j62 F x0 σ) am_kI := by
  unfold f_Md_letter_j62
  refine aw_aload_n 0 (kk := ?_)
  refine ac_I (st := []) [.ref x0] (ag_V 326 10 rc_Md_refused wd_1381 cal_Md_refused wd_1383 ws_46) cal_Md_refused ⟨by decide, by decide⟩ (Nat.le_of_ble_eq_true rfl) (m_Md_refused g F σ x0) (fun v3 σ4 => ?_)
  exact aw_iret
def f_Md_letter_j59 (F : Nat) (x0 : Nat) (x1 : Int32) (x2 : Int32) (x3 : Int32) (t8 : Int32) (t9 : Int32)  (σ : am_S) : Option (Int32 × am_S) :=
  if t8 < t9 then
    if x2 = 0 then
      (am_gA σ 10 38 x0).bind fun v22 =>
      (am_gA σ 11 0 v22).bind fun v23 =>
      (am_gA σ 10 38 x0).bind fun v24 =>
      (am_gA σ 11 1 v24).bind fun v25 =>
      (am_lI σ .int v25 x1).bind fun v26 =>
      (f_Ro_get F σ v23 (v26 + x3)).bind fun v27 =>
      some (v27, σ)
    else
      (am_gA σ 10 41 x0).bind fun v10 =>
      (am_lI σ .int v10 x1).bind fun v11 =>
      if 0 ≤ v11 then
        (am_gA σ 10 2 x0).bind fun v12 =>
        (am_gA σ 10 3 x0).bind fun v13 =>
        (am_gA σ 10 41 x0).bind fun v14 =>
        (am_lI σ .int v14 x1).bind fun v15 =>
        (am_lI σ .int v13 v15).bind fun v16 =>
        (f_Ro_get F σ v12 (v16 + x3)).bind fun v17 =>
        some (v17, σ)
      else
        (am_gA σ 10 39 x0).bind fun v18 =>
        (am_gA σ 10 40 x0).bind fun v19 =>
        (am_lI σ .int v19 x1).bind fun v20 =>
        (f_Ro_get F σ v18 (v20 + x3)).bind fun v21 =>
        some (v21, σ)
  else
    f_Md_letter_j62 F x0 σ
theorem b_Md_letter_j59 {g : am_G} {σ0 : am_S} (F : Nat) (x0 : Nat) (x1 : Int32) (x2 : Int32) (x3 : Int32) (t8 : Int32) (t9 : Int32)   (σ : am_S) : am_W g mx_Md_letter σ0 59 [some (.ref x0), some (.int x1), some (.int x2), some (.int x3)] [.int t9, .int t8] σ (f_Md_letter_j59 F x0 x1 x2 x3 t8 t9 σ) am_kI := by
  unfold f_Md_letter_j59
  refine aw_icmp_lt 8 67 (kt := fun _ => ?_) (kf := fun _ => ?_)
  · refine aw_iload_n 2 (kk := ?_)
    refine aw_if_ne 25 93 (kt := fun _ => ?_) (kf := fun _ => ?_)
    · refine aw_aload_n 0 (kk := ?_)
      refine aw_gA 10 41 302 (hw := wd_1196) (kk := fun v10 => ?_)
      refine aw_iload_n 1 (kk := ?_)
      refine aw_lI (kk := fun v11 => ?_)
      refine aw_if_ge 21 120 (kt := fun _ => ?_) (kf := fun _ => ?_)
      · refine aw_aload_n 0 (kk := ?_)
        refine aw_gA 10 2 20 (hw := wd_1157) (kk := fun v12 => ?_)
        refine aw_aload_n 0 (kk := ?_)
        refine aw_gA 10 3 24 (hw := wd_1158) (kk := fun v13 => ?_)
        refine aw_aload_n 0 (kk := ?_)
        refine aw_gA 10 41 302 (hw := wd_1196) (kk := fun v14 => ?_)
        refine aw_iload_n 1 (kk := ?_)
        refine aw_lI (kk := fun v15 => ?_)
        refine aw_lI (kk := fun v16 => ?_)
        refine aw_iload_n 3 (kk := ?_)
        refine aw_iadd (kk := ?_)
        refine ac_PI (st := []) [.ref v12, .int (v16 + x3)] (ag_V 42 12 rc_Ro_get wd_1335 cal_Ro_get wd_1336 wd_1337) cal_Ro_get ⟨by decide, by decide⟩ (Nat.le_of_ble_eq_true rfl) (m_Ro_get g F σ v12 (v16 + x3)) (fun v17 => ?_)
        exact aw_iret
      · refine aw_aload_n 0 (kk := ?_)
        refine aw_gA 10 39 296 (hw := wd_1194) (kk := fun v18 => ?_)
        refine aw_aload_n 0 (kk := ?_)
        refine aw_gA 10 40 299 (hw := wd_1195) (kk := fun v19 => ?_)
        refine aw_iload_n 1 (kk := ?_)
        refine aw_lI (kk := fun v20 => ?_)
        refine aw_iload_n 3 (kk := ?_)
        refine aw_iadd (kk := ?_)
        refine ac_PI (st := []) [.ref v18, .int (v20 + x3)] (ag_V 42 12 rc_Ro_get wd_1335 cal_Ro_get wd_1336 wd_1337) cal_Ro_get ⟨by decide, by decide⟩ (Nat.le_of_ble_eq_true rfl) (m_Ro_get g F σ v18 (v20 + x3)) (fun v21 => ?_)
        refine aw_goto 23 140 (kk := ?_)
        exact aw_iret
    · refine aw_aload_n 0 (kk := ?_)
      refine aw_gA 10 38 293 (hw := wd_1193) (kk := fun v22 => ?_)
      refine aw_gA 11 0 174 (hw := wd_1124) (kk := fun v23 => ?_)
      refine aw_aload_n 0 (kk := ?_)
      refine aw_gA 10 38 293 (hw := wd_1193) (kk := fun v24 => ?_)
      refine aw_gA 11 1 177 (hw := wd_1126) (kk := fun v25 => ?_)
      refine aw_iload_n 1 (kk := ?_)
      refine aw_lI (kk := fun v26 => ?_)
      refine aw_iload_n 3 (kk := ?_)
      refine aw_iadd (kk := ?_)
      refine ac_PI (st := []) [.ref v23, .int (v26 + x3)] (ag_V 42 12 rc_Ro_get wd_1335 cal_Ro_get wd_1336 wd_1337) cal_Ro_get ⟨by decide, by decide⟩ (Nat.le_of_ble_eq_true rfl) (m_Ro_get g F σ v23 (v26 + x3)) (fun v27 => ?_)
      exact aw_iret
  · exact am_W.drop [true, false, false, false] (b_Md_letter_j62 F x0 σ)
def f_Md_letter (F : Nat) (σ : am_S) (x0 : Nat) (x1 : Int32) (x2 : Int32) (x3 : Int32) : Option (Int32 × am_S) :=
  am_ck σ 10 x0 (
  (am_pI σ 10 0 x0 0).bind fun σ1 =>
  (f_Md_in F σ1 x2 0 1).bind fun v2 =>
  if v2 = 0 then
    am_b2 (f_Md_bad F σ1 x0) fun v30 σ31 =>
    some (v30, σ31)
  else
    if x1 < 0 then
      f_Md_letter_j62 F x0 σ1
    else
      (am_gA σ1 10 38 x0).bind fun v5 =>
      (am_gI σ1 11 4 v5).bind fun v6 =>
      if v6 ≤ x1 then
        f_Md_letter_j62 F x0 σ1
      else
        if x3 < 0 then
          f_Md_letter_j62 F x0 σ1
        else
          if x2 = 0 then
            (am_gA σ1 10 38 x0).bind fun v28 =>
            (f_Ps_length F σ1 v28 x1).bind fun v29 =>
            f_Md_letter_j59 F x0 x1 x2 x3 x3 v29 σ1
          else
            (f_Md_seenLength F σ1 x0 x1).bind fun v7 =>
            f_Md_letter_j59 F x0 x1 x2 x3 x3 v7 σ1)
theorem rc_Md_letter {F : Nat} {σ : am_S} {x0 : Nat} {x1 : Int32} {x2 : Int32} {x3 : Int32} (h : (f_Md_letter F σ x0 x1 x2 x3).isSome = true) : ∃ fs, σ.2.2 x0 = some (.inr (10, fs)) := am_ck_some h
theorem m_Md_letter (g : am_G) (F : Nat) (σ : am_S) (x0 : Nat) (x1 : Int32) (x2 : Int32) (x3 : Int32) : am_Met g mx_Md_letter [.ref x0, .int x1, .int x2, .int x3] σ ((f_Md_letter F σ x0 x1 x2 x3).bind am_kI) := by
  refine am_Met.of (lv := [some (.ref x0), some (.int x1), some (.int x2), some (.int x3)]) (am_cc rfl (am_cc rfl (am_cc rfl (am_cc rfl am_c0)))) (Nat.le_of_ble_eq_true rfl) rfl (by decide) ?_
  unfold f_Md_letter
  refine am_W.ck ?_
  refine aw_aload_n 0 (kk := ?_)
  refine aw_iconst 0 (v := 0) (kk := ?_)
  refine aw_pI 10 0 269 (hw := wd_1155) (kk := fun σ1 => ?_)
  refine aw_iload_n 2 (kk := ?_)
  refine aw_iconst 0 (v := 0) (kk := ?_)
  refine aw_iconst 1 (v := 1) (kk := ?_)
  refine ac_PI (st := []) [.int x2, .int 0, .int 1] (ag_S 258 wd_1329 cal_Md_in wd_1330) cal_Md_in ⟨by decide, by decide⟩ (Nat.le_of_ble_eq_true rfl) (m_Md_in g F σ1 x2 0 1) (fun v2 => ?_)
  refine aw_if_ne 8 19 (kt := fun _ => ?_) (kf := fun _ => ?_)
  · refine aw_iload_n 1 (kk := ?_)
    refine aw_if_lt 42 62 (kt := fun _ => ?_) (kf := fun _ => ?_)
    · exact am_W.drop [true, false, false, false] (b_Md_letter_j62 F x0 σ1)
    · refine aw_iload_n 1 (kk := ?_)
      refine aw_aload_n 0 (kk := ?_)
      refine aw_gA 10 38 293 (hw := wd_1193) (kk := fun v5 => ?_)
      refine aw_gI 11 4 129 (hw := wd_1132) (kk := fun v6 => ?_)
      refine aw_icmp_ge 31 62 (kt := fun _ => ?_) (kf := fun _ => ?_)
      · exact am_W.drop [true, false, false, false] (b_Md_letter_j62 F x0 σ1)
      · refine aw_iload_n 3 (kk := ?_)
        refine aw_if_lt 27 62 (kt := fun _ => ?_) (kf := fun _ => ?_)
        · exact am_W.drop [true, false, false, false] (b_Md_letter_j62 F x0 σ1)
        · refine aw_iload_n 3 (kk := ?_)
          refine aw_iload_n 2 (kk := ?_)
          refine aw_if_ne 14 54 (kt := fun _ => ?_) (kf := fun _ => ?_)
          · refine aw_aload_n 0 (kk := ?_)
            refine aw_iload_n 1 (kk := ?_)
            refine ac_PI (st := [.int x3]) [.ref x0, .int x1] (ag_V 342 10 rc_Md_seenLength wd_1516 cal_Md_seenLength wd_1518 ws_64) cal_Md_seenLength ⟨by decide, by decide⟩ (Nat.le_of_ble_eq_true rfl) (m_Md_seenLength g F σ1 x0 x1) (fun v7 => ?_)
            exact am_W.drop [true, true, true, true] (b_Md_letter_j59 F x0 x1 x2 x3 x3 v7 σ1)
          · refine aw_aload_n 0 (kk := ?_)
            refine aw_gA 10 38 293 (hw := wd_1193) (kk := fun v28 => ?_)
            refine aw_iload_n 1 (kk := ?_)
            refine ac_PI (st := [.int x3]) [.ref v28, .int x1] (ag_V 339 11 rc_Ps_length wd_1515 cal_Ps_length wd_1358 wd_1359) cal_Ps_length ⟨by decide, by decide⟩ (Nat.le_of_ble_eq_true rfl) (m_Ps_length g F σ1 v28 x1) (fun v29 => ?_)
            refine aw_goto 8 59 (kk := ?_)
            exact am_W.drop [true, true, true, true] (b_Md_letter_j59 F x0 x1 x2 x3 x3 v29 σ1)
  · refine aw_aload_n 0 (kk := ?_)
    refine ac_I (st := []) [.ref x0] (ag_V 305 10 rc_Md_bad wd_1291 cal_Md_bad wd_1293 ws_42) cal_Md_bad ⟨by decide, by decide⟩ (Nat.le_of_ble_eq_true rfl) (m_Md_bad g F σ1 x0) (fun v30 σ31 => ?_)
    exact aw_iret
def f_Md_blob_j36 (F : Nat) (x0 : Nat)  (σ : am_S) : Option (Int32 × am_S) :=
  am_b2 (f_Md_refused F σ x0) fun v3 σ4 =>
  some (v3, σ4)
theorem b_Md_blob_j36 {g : am_G} {σ0 : am_S} (F : Nat) (x0 : Nat)   (σ : am_S) : am_W g mx_Md_blob σ0 36 [some (.ref x0), none, none] [] σ (f_Md_blob_j36 F x0 σ) am_kI := by
  unfold f_Md_blob_j36
  refine aw_aload_n 0 (kk := ?_)
  refine ac_I (st := []) [.ref x0] (ag_V 326 10 rc_Md_refused wd_1381 cal_Md_refused wd_1383 ws_46) cal_Md_refused ⟨by decide, by decide⟩ (Nat.le_of_ble_eq_true rfl) (m_Md_refused g F σ x0) (fun v3 σ4 => ?_)
  refine aw_goto 16 56 (kk := ?_)
  exact aw_iret
def f_Md_blob (F : Nat) (σ : am_S) (x0 : Nat) (x1 : Int32) (x2 : Int32) : Option (Int32 × am_S) :=
  am_ck σ 10 x0 (
  (am_pI σ 10 0 x0 0).bind fun σ1 =>
  (f_Md_in F σ1 x1 0 2).bind fun v2 =>
  if v2 = 0 then
    am_b2 (f_Md_bad F σ1 x0) fun v12 σ13 =>
    some (v12, σ13)
  else
    if x2 < 0 then
      f_Md_blob_j36 F x0 σ1
    else
      (am_gA σ1 10 1 x0).bind fun v5 =>
      (am_lA σ1 11 v5 x1).bind fun v6 =>
      (am_gI σ1 11 4 v6).bind fun v7 =>
      if x2 < v7 then
        (am_gA σ1 10 1 x0).bind fun v8 =>
        (am_lA σ1 11 v8 x1).bind fun v9 =>
        (am_gA σ1 11 2 v9).bind fun v10 =>
        (am_lI σ1 .int v10 (3 * x2)).bind fun v11 =>
        some (v11, σ1)
      else
        f_Md_blob_j36 F x0 σ1)
theorem rc_Md_blob {F : Nat} {σ : am_S} {x0 : Nat} {x1 : Int32} {x2 : Int32} (h : (f_Md_blob F σ x0 x1 x2).isSome = true) : ∃ fs, σ.2.2 x0 = some (.inr (10, fs)) := am_ck_some h
theorem m_Md_blob (g : am_G) (F : Nat) (σ : am_S) (x0 : Nat) (x1 : Int32) (x2 : Int32) : am_Met g mx_Md_blob [.ref x0, .int x1, .int x2] σ ((f_Md_blob F σ x0 x1 x2).bind am_kI) := by
  refine am_Met.of (lv := [some (.ref x0), some (.int x1), some (.int x2)]) (am_cc rfl (am_cc rfl (am_cc rfl am_c0))) (Nat.le_of_ble_eq_true rfl) rfl (by decide) ?_
  unfold f_Md_blob
  refine am_W.ck ?_
  refine aw_aload_n 0 (kk := ?_)
  refine aw_iconst 0 (v := 0) (kk := ?_)
  refine aw_pI 10 0 269 (hw := wd_1155) (kk := fun σ1 => ?_)
  refine aw_iload_n 1 (kk := ?_)
  refine aw_iconst 0 (v := 0) (kk := ?_)
  refine aw_iconst 2 (v := 2) (kk := ?_)
  refine ac_PI (st := []) [.int x1, .int 0, .int 2] (ag_S 258 wd_1329 cal_Md_in wd_1330) cal_Md_in ⟨by decide, by decide⟩ (Nat.le_of_ble_eq_true rfl) (m_Md_in g F σ1 x1 0 2) (fun v2 => ?_)
  refine aw_if_ne 8 19 (kt := fun _ => ?_) (kf := fun _ => ?_)
  · refine aw_iload_n 2 (kk := ?_)
    refine aw_if_lt 16 36 (kt := fun _ => ?_) (kf := fun _ => ?_)
    · exact am_W.drop [true, false, false] (b_Md_blob_j36 F x0 σ1)
    · refine aw_iload_n 2 (kk := ?_)
      refine aw_aload_n 0 (kk := ?_)
      refine aw_gA 10 1 278 (hw := wd_1156) (kk := fun v5 => ?_)
      refine aw_iload_n 1 (kk := ?_)
      refine aw_lA 11 (kk := fun v6 => ?_)
      refine aw_gI 11 4 129 (hw := wd_1132) (kk := fun v7 => ?_)
      refine aw_icmp_lt 10 43 (kt := fun _ => ?_) (kf := fun _ => ?_)
      · refine aw_aload_n 0 (kk := ?_)
        refine aw_gA 10 1 278 (hw := wd_1156) (kk := fun v8 => ?_)
        refine aw_iload_n 1 (kk := ?_)
        refine aw_lA 11 (kk := fun v9 => ?_)
        refine aw_gA 11 2 142 (hw := wd_1128) (kk := fun v10 => ?_)
        refine aw_iconst 3 (v := 3) (kk := ?_)
        refine aw_iload_n 2 (kk := ?_)
        refine aw_imul (kk := ?_)
        refine aw_lI (kk := fun v11 => ?_)
        exact aw_iret
      · exact am_W.drop [true, false, false] (b_Md_blob_j36 F x0 σ1)
  · refine aw_aload_n 0 (kk := ?_)
    refine ac_I (st := []) [.ref x0] (ag_V 305 10 rc_Md_bad wd_1291 cal_Md_bad wd_1293 ws_42) cal_Md_bad ⟨by decide, by decide⟩ (Nat.le_of_ble_eq_true rfl) (m_Md_bad g F σ1 x0) (fun v12 σ13 => ?_)
    exact aw_iret
def f_Md_count (F : Nat) (σ : am_S) (x0 : Nat) (x1 : Int32) : Option (Int32 × am_S) :=
  am_ck σ 10 x0 (
  (am_pI σ 10 0 x0 0).bind fun σ1 =>
  (f_Md_in F σ1 x1 0 2).bind fun v2 =>
  if v2 = 0 then
    if x1 = 3 then
      (am_gI σ1 10 4 x0).bind fun v4 =>
      some (v4, σ1)
    else
    if x1 = 4 then
      (am_gA σ1 10 2 x0).bind fun v6 =>
      (am_gI σ1 12 1 v6).bind fun v7 =>
      some (v7, σ1)
    else
    if x1 = 5 then
      (am_gA σ1 10 38 x0).bind fun v9 =>
      (am_gI σ1 11 4 v9).bind fun v10 =>
      some (v10, σ1)
    else
    if x1 = 6 then
      (am_gA σ1 10 5 x0).bind fun v12 =>
      (am_gI σ1 12 1 v12).bind fun v13 =>
      some (v13, σ1)
    else
    if x1 = 7 then
      (am_gI σ1 10 7 x0).bind fun v15 =>
      some (v15, σ1)
    else
    some ((-1), σ1)
  else
    (am_gA σ1 10 1 x0).bind fun v16 =>
    (am_lA σ1 11 v16 x1).bind fun v17 =>
    (am_gI σ1 11 4 v17).bind fun v18 =>
    some (v18, σ1))
theorem rc_Md_count {F : Nat} {σ : am_S} {x0 : Nat} {x1 : Int32} (h : (f_Md_count F σ x0 x1).isSome = true) : ∃ fs, σ.2.2 x0 = some (.inr (10, fs)) := am_ck_some h
theorem m_Md_count (g : am_G) (F : Nat) (σ : am_S) (x0 : Nat) (x1 : Int32) : am_Met g mx_Md_count [.ref x0, .int x1] σ ((f_Md_count F σ x0 x1).bind am_kI) := by
  refine am_Met.of (lv := [some (.ref x0), some (.int x1)]) (am_cc rfl (am_cc rfl am_c0)) (Nat.le_of_ble_eq_true rfl) rfl (by decide) ?_
  unfold f_Md_count
  refine am_W.ck ?_
  refine aw_aload_n 0 (kk := ?_)
  refine aw_iconst 0 (v := 0) (kk := ?_)
  refine aw_pI 10 0 269 (hw := wd_1155) (kk := fun σ1 => ?_)
  refine aw_iload_n 1 (kk := ?_)
  refine aw_iconst 0 (v := 0) (kk := ?_)
  refine aw_iconst 2 (v := 2) (kk := ?_)
  refine ac_PI (st := []) [.int x1, .int 0, .int 2] (ag_S 258 wd_1329 cal_Md_in wd_1330) cal_Md_in ⟨by decide, by decide⟩ (Nat.le_of_ble_eq_true rfl) (m_Md_in g F σ1 x1 0 2) (fun v2 => ?_)
  refine aw_if_eq 13 24 (kt := fun _ => ?_) (kf := fun _ => ?_)
  · refine aw_iload_n 1 (kk := ?_)
    refine am_W.ite (fun h3 => ?_) (fun h3 => ?_)
    · refine aw_tsIn 69 3 7 #[35, 40, 48, 56, 64] 35 60 35 (h1 := by rw [h3]; decide) (h2 := by rw [h3]; decide) (ho := by rw [h3]; decide) (kk := ?_)
      refine aw_aload_n 0 (kk := ?_)
      refine aw_gI 10 4 17 (hw := wd_1159) (kk := fun v4 => ?_)
      exact aw_iret
    refine am_W.ite (fun h5 => ?_) (fun h5 => ?_)
    · refine aw_tsIn 69 3 7 #[35, 40, 48, 56, 64] 35 65 40 (h1 := by rw [h5]; decide) (h2 := by rw [h5]; decide) (ho := by rw [h5]; decide) (kk := ?_)
      refine aw_aload_n 0 (kk := ?_)
      refine aw_gA 10 2 20 (hw := wd_1157) (kk := fun v6 => ?_)
      refine aw_gI 12 1 7 (hw := wd_1116) (kk := fun v7 => ?_)
      exact aw_iret
    refine am_W.ite (fun h8 => ?_) (fun h8 => ?_)
    · refine aw_tsIn 69 3 7 #[35, 40, 48, 56, 64] 35 73 48 (h1 := by rw [h8]; decide) (h2 := by rw [h8]; decide) (ho := by rw [h8]; decide) (kk := ?_)
      refine aw_aload_n 0 (kk := ?_)
      refine aw_gA 10 38 293 (hw := wd_1193) (kk := fun v9 => ?_)
      refine aw_gI 11 4 129 (hw := wd_1132) (kk := fun v10 => ?_)
      exact aw_iret
    refine am_W.ite (fun h11 => ?_) (fun h11 => ?_)
    · refine aw_tsIn 69 3 7 #[35, 40, 48, 56, 64] 35 81 56 (h1 := by rw [h11]; decide) (h2 := by rw [h11]; decide) (ho := by rw [h11]; decide) (kk := ?_)
      refine aw_aload_n 0 (kk := ?_)
      refine aw_gA 10 5 284 (hw := wd_1160) (kk := fun v12 => ?_)
      refine aw_gI 12 1 7 (hw := wd_1116) (kk := fun v13 => ?_)
      exact aw_iret
    refine am_W.ite (fun h14 => ?_) (fun h14 => ?_)
    · refine aw_tsIn 69 3 7 #[35, 40, 48, 56, 64] 35 89 64 (h1 := by rw [h14]; decide) (h2 := by rw [h14]; decide) (ho := by rw [h14]; decide) (kk := ?_)
      refine aw_aload_n 0 (kk := ?_)
      refine aw_gI 10 7 266 (hw := wd_1162) (kk := fun v15 => ?_)
      exact aw_iret
    refine aw_tsOut 69 3 7 #[35, 40, 48, 56, 64] 35 94 (h := am_tsout fun z q1 q2 => ?_) (kk := ?_)
    · have hz : z = 3 ∨ z = 4 ∨ z = 5 ∨ z = 6 ∨ z = 7 := by omega
      rcases hz with hz | hz | hz | hz | hz
      · rw [hz]; exact am_neI h3 (by decide)
      · rw [hz]; exact am_neI h5 (by decide)
      · rw [hz]; exact am_neI h8 (by decide)
      · rw [hz]; exact am_neI h11 (by decide)
      · rw [hz]; exact am_neI h14 (by decide)
    · refine aw_iconst (-1) (v := (-1)) (kk := ?_)
      exact aw_iret
  · refine aw_aload_n 0 (kk := ?_)
    refine aw_gA 10 1 278 (hw := wd_1156) (kk := fun v16 => ?_)
    refine aw_iload_n 1 (kk := ?_)
    refine aw_lA 11 (kk := fun v17 => ?_)
    refine aw_gI 11 4 129 (hw := wd_1132) (kk := fun v18 => ?_)
    exact aw_iret
