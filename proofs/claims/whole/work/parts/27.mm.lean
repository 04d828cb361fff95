/-! ===== printed by wip/gen ===== -/
def f_MM_init_l36 (F : Nat) (x0 : Nat) (k60 : am_S → Option (am_S)) : Nat → Int32 → am_S → Option (am_S)
  | 0, _, _ => none
  | n + 1, x1, σ =>
    if 3 ≤ x1 then
      k60 σ
    else
      (am_gA σ 0 2 x0).bind fun v8 =>
      (f_Pm_init F (am_no σ 4) σ.1).bind fun σ9 =>
      (am_sA σ9 4 v8 x1 σ.1).bind fun σ10 =>
      f_MM_init_l36 F x0 k60 n (x1 + 1) σ10
theorem b_MM_init_l36 {g : am_G} {σ0 : am_S} (F : Nat) (x0 : Nat) (k60 : am_S → Option (am_S)) (h60 : ∀ (τ : am_S), am_W g mx_MM_init σ0 60 [some (.ref x0), none] [] τ (k60 τ) am_kV) : ∀ (n : Nat) (x1 : Int32) (σ : am_S), am_W g mx_MM_init σ0 36 [some (.ref x0), some (.int x1)] [] σ (f_MM_init_l36 F x0 k60 n x1 σ) am_kV := by
  intro n
  induction n with
  | zero =>
    intro x1 σ
    rw [f_MM_init_l36]
    exact am_W.none
  | succ n ih =>
    intro x1 σ
    rw [f_MM_init_l36]
    refine aw_iload_n 1 (kk := ?_)
    refine aw_iconst 3 (v := 3) (kk := ?_)
    refine aw_icmp_ge 22 60 (kt := fun _ => ?_) (kf := fun _ => ?_)
    · exact am_W.drop [true, false] (h60 σ)
    · refine aw_aload_n 0 (kk := ?_)
      refine aw_gA 0 2 25 (hw := wd_333) (kk := fun v8 => ?_)
      refine aw_iload_n 1 (kk := ?_)
      refine aw_new 4 23 (hw := wd_122) (hw2 := wd_124) (hw3 := wd_5) (kk := ?_)
      refine aw_dup (kk := ?_)
      refine ac_V (st := [.ref σ.1, .int x1, .ref v8]) [.ref σ.1] (ag_IN 29 "MapMerger" wd_125 cal_Pm_init wd_126) cal_Pm_init ⟨by decide, by decide⟩ (Nat.le_of_ble_eq_true rfl) (m_Pm_init g F (am_no σ 4) σ.1) (fun σ9 => ?_)
      refine aw_sA 4 (kk := fun σ10 => ?_)
      refine aw_iinc 1 1 (v := 1) (kk := ?_)
      refine aw_goto (-21) 36 (kk := ?_)
      exact am_W.drop [true, true] (ih (x1 + 1) σ10)
def f_MM_init_j60 (F : Nat) (x0 : Nat)  (σ : am_S) : Option (am_S) :=
  (am_gA (am_no σ 5) 0 1 x0).bind fun v11 =>
  (f_Rn_init F (am_no σ 5) σ.1 v11).bind fun σ12 =>
  (am_pA σ12 0 3 x0 σ.1).bind fun σ13 =>
  (am_gA (am_no σ13 6) 0 2 x0).bind fun v14 =>
  (am_lA (am_no σ13 6) 4 v14 0).bind fun v15 =>
  (am_gA (am_no σ13 6) 0 2 x0).bind fun v16 =>
  (am_lA (am_no σ13 6) 4 v16 1).bind fun v17 =>
  (am_gA (am_no σ13 6) 0 2 x0).bind fun v18 =>
  (am_lA (am_no σ13 6) 4 v18 2).bind fun v19 =>
  (am_gA (am_no σ13 6) 0 1 x0).bind fun v20 =>
  (f_Mg_init F (am_no σ13 6) σ13.1 v15 v17 v19 v20).bind fun σ21 =>
  (am_pA σ21 0 4 x0 σ13.1).bind fun σ22 =>
  some σ22
theorem b_MM_init_j60 {g : am_G} {σ0 : am_S} (F : Nat) (x0 : Nat)   (σ : am_S) : am_W g mx_MM_init σ0 60 [some (.ref x0), none] [] σ (f_MM_init_j60 F x0 σ) am_kV := by
  unfold f_MM_init_j60
  refine aw_aload_n 0 (kk := ?_)
  refine aw_new 5 30 (hw := wd_142) (hw2 := wd_143) (hw3 := wd_6) (kk := ?_)
  refine aw_dup (kk := ?_)
  refine aw_aload_n 0 (kk := ?_)
  refine aw_gA 0 1 19 (hw := wd_332) (kk := fun v11 => ?_)
  refine ac_V (st := [.ref σ.1, .ref x0]) [.ref σ.1, .ref v11] (ag_I 32 wd_144 cal_Rn_init wd_145) cal_Rn_init ⟨by decide, by decide⟩ (Nat.le_of_ble_eq_true rfl) (m_Rn_init g F (am_no σ 5) σ.1 v11) (fun σ12 => ?_)
  refine aw_pAF 0 3 35 (hw := wd_334) (kk := fun σ13 => ?_)
  refine aw_aload_n 0 (kk := ?_)
  refine aw_new 6 39 (hw := wd_176) (hw2 := wd_177) (hw3 := wd_7) (kk := ?_)
  refine aw_dup (kk := ?_)
  refine aw_aload_n 0 (kk := ?_)
  refine aw_gA 0 2 25 (hw := wd_333) (kk := fun v14 => ?_)
  refine aw_iconst 0 (v := 0) (kk := ?_)
  refine aw_lA 4 (kk := fun v15 => ?_)
  refine aw_aload_n 0 (kk := ?_)
  refine aw_gA 0 2 25 (hw := wd_333) (kk := fun v16 => ?_)
  refine aw_iconst 1 (v := 1) (kk := ?_)
  refine aw_lA 4 (kk := fun v17 => ?_)
  refine aw_aload_n 0 (kk := ?_)
  refine aw_gA 0 2 25 (hw := wd_333) (kk := fun v18 => ?_)
  refine aw_iconst 2 (v := 2) (kk := ?_)
  refine aw_lA 4 (kk := fun v19 => ?_)
  refine aw_aload_n 0 (kk := ?_)
  refine aw_gA 0 1 19 (hw := wd_332) (kk := fun v20 => ?_)
  refine ac_V (st := [.ref σ13.1, .ref x0]) [.ref σ13.1, .ref v15, .ref v17, .ref v19, .ref v20] (ag_I 41 wd_178 cal_Mg_init wd_179) cal_Mg_init ⟨by decide, by decide⟩ (Nat.le_of_ble_eq_true rfl) (m_Mg_init g F (am_no σ13 6) σ13.1 v15 v17 v19 v20) (fun σ21 => ?_)
  refine aw_pAF 0 4 44 (hw := wd_335) (kk := fun σ22 => ?_)
  exact aw_vret
def f_MM_init (F : Nat) (σ : am_S) (x0 : Nat) : Option (am_S) :=
  am_ck σ 0 x0 (
  (f_In_init F (am_no σ 1) σ.1).bind fun σ1 =>
  (am_pA σ1 0 0 x0 σ.1).bind fun σ2 =>
  (f_Bl_init F (am_no σ2 2) σ2.1).bind fun σ3 =>
  (am_pA σ3 0 1 x0 σ2.1).bind fun σ4 =>
  am_b2 (am_nA σ4 4 3) fun a5 σ6 =>
  (am_pA σ6 0 2 x0 a5).bind fun σ7 =>
  f_MM_init_l36 F x0 (fun τ => f_MM_init_j60 F x0 τ) F 0 σ7)
theorem rc_MM_init {F : Nat} {σ : am_S} {x0 : Nat} (h : (f_MM_init F σ x0).isSome = true) : ∃ fs, σ.2.2 x0 = some (.inr (0, fs)) := am_ck_some h
theorem m_MM_init (g : am_G) (F : Nat) (σ : am_S) (x0 : Nat) : am_Met g mx_MM_init [.ref x0] σ ((f_MM_init F σ x0).bind am_kV) := by
  refine am_Met.of (lv := [some (.ref x0), none]) (am_cc rfl am_c0) (Nat.le_of_ble_eq_true rfl) rfl (by decide) ?_
  unfold f_MM_init
  refine am_W.ck ?_
  refine aw_aload_n 0 (kk := ?_)
  refine aw_obj 1 (hw := wd_32) (hw2 := wd_33) (hw3 := wd_34) (hr := Nat.le_of_ble_eq_true rfl) (kk := ?_)
  refine aw_aload_n 0 (kk := ?_)
  refine aw_new 1 7 (hw := wd_35) (hw2 := wd_36) (hw3 := wd_2) (kk := ?_)
  refine aw_dup (kk := ?_)
  refine ac_V (st := [.ref σ.1, .ref x0]) [.ref σ.1] (ag_IN 9 "MapMerger" wd_37 cal_In_init wd_38) cal_In_init ⟨by decide, by decide⟩ (Nat.le_of_ble_eq_true rfl) (m_In_init g F (am_no σ 1) σ.1) (fun σ1 => ?_)
  refine aw_pAF 0 0 10 (hw := wd_331) (kk := fun σ2 => ?_)
  refine aw_aload_n 0 (kk := ?_)
  refine aw_new 2 16 (hw := wd_56) (hw2 := wd_57) (hw3 := wd_3) (kk := ?_)
  refine aw_dup (kk := ?_)
  refine ac_V (st := [.ref σ2.1, .ref x0]) [.ref σ2.1] (ag_IN 18 "MapMerger" wd_58 cal_Bl_init wd_59) cal_Bl_init ⟨by decide, by decide⟩ (Nat.le_of_ble_eq_true rfl) (m_Bl_init g F (am_no σ2 2) σ2.1) (fun σ3 => ?_)
  refine aw_pAF 0 1 19 (hw := wd_332) (kk := fun σ4 => ?_)
  refine aw_aload_n 0 (kk := ?_)
  refine aw_iconst 3 (v := 3) (kk := ?_)
  refine aw_nA2 4 23 (hw := wd_122) (hw2 := wd_123) (kk := fun a5 σ6 => ?_)
  refine aw_pAF 0 2 25 (hw := wd_333) (kk := fun σ7 => ?_)
  refine aw_iconst 0 (v := 0) (kk := ?_)
  refine aw_istore_n 1 (kk := ?_)
  exact am_W.drop [true, true] (b_MM_init_l36 F x0 (fun τ => f_MM_init_j60 F x0 τ) (fun τ => am_W.drop [true, false] (b_MM_init_j60 F x0 τ)) F 0 σ7)
def f_MM_feed (F : Nat) (σ : am_S) (x0 : Nat) (x1 : Int32) (x2 : Int32) (x3 : Int32) (x4 : Int32) (x5 : Int32) : Option ((Nat ⊕ Unit) × am_S) :=
  am_ck σ 0 x0 (
  (am_gA σ 0 0 x0).bind fun v1 =>
  (f_In_hasRoomFor F σ v1 20).bind fun v2 =>
  if v2 = 0 then
    some (.inl σ.1, am_nx σ 14)
  else
    (am_gA σ 0 0 x0).bind fun v3 =>
    (f_In_addNumber F σ v3 x1).bind fun σ4 =>
    (am_gA σ4 0 0 x0).bind fun v5 =>
    (f_In_addNumber F σ4 v5 x2).bind fun σ6 =>
    (am_gA σ6 0 0 x0).bind fun v7 =>
    (f_In_addNumber F σ6 v7 x3).bind fun σ8 =>
    (am_gA σ8 0 0 x0).bind fun v9 =>
    (f_In_addNumber F σ8 v9 x4).bind fun σ10 =>
    (am_gA σ10 0 0 x0).bind fun v11 =>
    (f_In_addNumber F σ10 v11 x5).bind fun σ12 =>
    some (.inr (), σ12))
theorem rc_MM_feed {F : Nat} {σ : am_S} {x0 : Nat} {x1 : Int32} {x2 : Int32} {x3 : Int32} {x4 : Int32} {x5 : Int32} (h : (f_MM_feed F σ x0 x1 x2 x3 x4 x5).isSome = true) : ∃ fs, σ.2.2 x0 = some (.inr (0, fs)) := am_ck_some h
theorem m_MM_feed (g : am_G) (F : Nat) (σ : am_S) (x0 : Nat) (x1 : Int32) (x2 : Int32) (x3 : Int32) (x4 : Int32) (x5 : Int32) : am_Met g mx_MM_feed [.ref x0, .int x1, .int x2, .int x3, .int x4, .int x5] σ ((f_MM_feed F σ x0 x1 x2 x3 x4 x5).bind am_kTV) := by
  refine am_Met.of (lv := [some (.ref x0), some (.int x1), some (.int x2), some (.int x3), some (.int x4), some (.int x5)]) (am_cc rfl (am_cc rfl (am_cc rfl (am_cc rfl (am_cc rfl (am_cc rfl am_c0)))))) (Nat.le_of_ble_eq_true rfl) rfl (by decide) ?_
  unfold f_MM_feed
  refine am_W.ck ?_
  refine aw_aload_n 0 (kk := ?_)
  refine aw_gA 0 0 10 (hw := wd_331) (kk := fun v1 => ?_)
  refine aw_bipush 20 (v := 20) (kk := ?_)
  refine ac_PI (st := []) [.ref v1, .int 20] (ag_V 48 1 rc_In_hasRoomFor wd_392 cal_In_hasRoomFor wd_393 wd_394) cal_In_hasRoomFor ⟨by decide, by decide⟩ (Nat.le_of_ble_eq_true rfl) (m_In_hasRoomFor g F σ v1 20) (fun v2 => ?_)
  refine aw_if_ne 11 20 (kt := fun _ => ?_) (kf := fun _ => ?_)
  · refine aw_aload_n 0 (kk := ?_)
    refine aw_gA 0 0 10 (hw := wd_331) (kk := fun v3 => ?_)
    refine aw_iload_n 1 (kk := ?_)
    refine ac_V (st := []) [.ref v3, .int x1] (ag_V 55 1 rc_In_addNumber wd_460 cal_In_addNumber wd_461 wd_462) cal_In_addNumber ⟨by decide, by decide⟩ (Nat.le_of_ble_eq_true rfl) (m_In_addNumber g F σ v3 x1) (fun σ4 => ?_)
    refine aw_aload_n 0 (kk := ?_)
    refine aw_gA 0 0 10 (hw := wd_331) (kk := fun v5 => ?_)
    refine aw_iload_n 2 (kk := ?_)
    refine ac_V (st := []) [.ref v5, .int x2] (ag_V 55 1 rc_In_addNumber wd_460 cal_In_addNumber wd_461 wd_462) cal_In_addNumber ⟨by decide, by decide⟩ (Nat.le_of_ble_eq_true rfl) (m_In_addNumber g F σ4 v5 x2) (fun σ6 => ?_)
    refine aw_aload_n 0 (kk := ?_)
    refine aw_gA 0 0 10 (hw := wd_331) (kk := fun v7 => ?_)
    refine aw_iload_n 3 (kk := ?_)
    refine ac_V (st := []) [.ref v7, .int x3] (ag_V 55 1 rc_In_addNumber wd_460 cal_In_addNumber wd_461 wd_462) cal_In_addNumber ⟨by decide, by decide⟩ (Nat.le_of_ble_eq_true rfl) (m_In_addNumber g F σ6 v7 x3) (fun σ8 => ?_)
    refine aw_aload_n 0 (kk := ?_)
    refine aw_gA 0 0 10 (hw := wd_331) (kk := fun v9 => ?_)
    refine aw_iload 4 (kk := ?_)
    refine ac_V (st := []) [.ref v9, .int x4] (ag_V 55 1 rc_In_addNumber wd_460 cal_In_addNumber wd_461 wd_462) cal_In_addNumber ⟨by decide, by decide⟩ (Nat.le_of_ble_eq_true rfl) (m_In_addNumber g F σ8 v9 x4) (fun σ10 => ?_)
    refine aw_aload_n 0 (kk := ?_)
    refine aw_gA 0 0 10 (hw := wd_331) (kk := fun v11 => ?_)
    refine aw_iload 5 (kk := ?_)
    refine ac_V (st := []) [.ref v11, .int x5] (ag_V 55 1 rc_In_addNumber wd_460 cal_In_addNumber wd_461 wd_462) cal_In_addNumber ⟨by decide, by decide⟩ (Nat.le_of_ble_eq_true rfl) (m_In_addNumber g F σ10 v11 x5) (fun σ12 => ?_)
    exact aw_vretT
  · refine aw_xnew 14 52 54 (hw := wd_396) (hw2 := wd_397) (hw3 := wd_17) (hx := am_xs14) (hr := Nat.le_of_ble_eq_true rfl) (kk := ?_)
    refine aw_throw (kk := ?_)
    exact at_outV
def f_MM_end (F : Nat) (σ : am_S) (x0 : Nat) (x1 : Int32) : Option ((Nat ⊕ Int32) × am_S) :=
  am_ck σ 0 x0 (
  if x1 < 0 then
    some (.inl σ.1, am_nx σ 13)
  else
    if 19 < x1 then
      some (.inl σ.1, am_nx σ 13)
    else
      (am_gA σ 0 0 x0).bind fun v1 =>
      (f_In_inputLength F σ v1).bind fun v2 =>
      if x1 ≤ v2 then
        (am_gA σ 0 0 x0).bind fun v3 =>
        (f_In_cutInput F σ v3 x1).bind fun σ4 =>
        (am_gA σ4 0 0 x0).bind fun v5 =>
        (f_In_makeArgument F σ4 v5).bind fun σ6 =>
        (am_gA σ6 0 0 x0).bind fun v7 =>
        (f_In_argumentCount F σ6 v7).bind fun v8 =>
        some (.inr v8, σ6)
      else
        some (.inl σ.1, am_nx σ 13))
theorem rc_MM_end {F : Nat} {σ : am_S} {x0 : Nat} {x1 : Int32} (h : (f_MM_end F σ x0 x1).isSome = true) : ∃ fs, σ.2.2 x0 = some (.inr (0, fs)) := am_ck_some h
theorem m_MM_end (g : am_G) (F : Nat) (σ : am_S) (x0 : Nat) (x1 : Int32) : am_Met g mx_MM_end [.ref x0, .int x1] σ ((f_MM_end F σ x0 x1).bind am_kTI) := by
  refine am_Met.of (lv := [some (.ref x0), some (.int x1)]) (am_cc rfl (am_cc rfl am_c0)) (Nat.le_of_ble_eq_true rfl) rfl (by decide) ?_
  unfold f_MM_end
  refine am_W.ck ?_
  refine aw_iload_n 1 (kk := ?_)
  refine aw_if_lt 20 21 (kt := fun _ => ?_) (kf := fun _ => ?_)
  · refine aw_xnew 13 63 65 (hw := wd_472) (hw2 := wd_473) (hw3 := wd_18) (hx := am_xs13) (hr := Nat.le_of_ble_eq_true rfl) (kk := ?_)
    refine aw_throw (kk := ?_)
    exact at_outI
  · refine aw_iload_n 1 (kk := ?_)
    refine aw_bipush 19 (v := 19) (kk := ?_)
    refine aw_icmp_gt 14 21 (kt := fun _ => ?_) (kf := fun _ => ?_)
    · refine aw_xnew 13 63 65 (hw := wd_472) (hw2 := wd_473) (hw3 := wd_18) (hx := am_xs13) (hr := Nat.le_of_ble_eq_true rfl) (kk := ?_)
      refine aw_throw (kk := ?_)
      exact at_outI
    · refine aw_iload_n 1 (kk := ?_)
      refine aw_aload_n 0 (kk := ?_)
      refine aw_gA 0 0 10 (hw := wd_331) (kk := fun v1 => ?_)
      refine ac_PI (st := [.int x1]) [.ref v1] (ag_V 59 1 rc_In_inputLength wd_372 cal_In_inputLength wd_373 wd_374) cal_In_inputLength ⟨by decide, by decide⟩ (Nat.le_of_ble_eq_true rfl) (m_In_inputLength g F σ v1) (fun v2 => ?_)
      refine aw_icmp_le 11 29 (kt := fun _ => ?_) (kf := fun _ => ?_)
      · refine aw_aload_n 0 (kk := ?_)
        refine aw_gA 0 0 10 (hw := wd_331) (kk := fun v3 => ?_)
        refine aw_iload_n 1 (kk := ?_)
        refine ac_V (st := []) [.ref v3, .int x1] (ag_V 66 1 rc_In_cutInput wd_487 cal_In_cutInput wd_488 wd_489) cal_In_cutInput ⟨by decide, by decide⟩ (Nat.le_of_ble_eq_true rfl) (m_In_cutInput g F σ v3 x1) (fun σ4 => ?_)
        refine aw_aload_n 0 (kk := ?_)
        refine aw_gA 0 0 10 (hw := wd_331) (kk := fun v5 => ?_)
        refine ac_V (st := []) [.ref v5] (ag_V 69 1 rc_In_makeArgument wd_491 cal_In_makeArgument wd_492 wd_493) cal_In_makeArgument ⟨by decide, by decide⟩ (Nat.le_of_ble_eq_true rfl) (m_In_makeArgument g F σ4 v5) (fun σ6 => ?_)
        refine aw_aload_n 0 (kk := ?_)
        refine aw_gA 0 0 10 (hw := wd_331) (kk := fun v7 => ?_)
        refine ac_PI (st := []) [.ref v7] (ag_V 72 1 rc_In_argumentCount wd_380 cal_In_argumentCount wd_381 wd_382) cal_In_argumentCount ⟨by decide, by decide⟩ (Nat.le_of_ble_eq_true rfl) (m_In_argumentCount g F σ6 v7) (fun v8 => ?_)
        exact aw_iretT
      · refine aw_xnew 13 63 65 (hw := wd_472) (hw2 := wd_473) (hw3 := wd_18) (hx := am_xs13) (hr := Nat.le_of_ble_eq_true rfl) (kk := ?_)
        refine aw_throw (kk := ?_)
        exact at_outI
def f_MM_isMap (F : Nat) (σ : am_S) (x0 : Int32) : Option (Int32) :=
  if x0 < 0 then
    some 0
  else
    if 3 ≤ x0 then
      some 0
    else
      some 1
theorem m_MM_isMap (g : am_G) (F : Nat) (σ : am_S) (x0 : Int32) : am_Met g mx_MM_isMap [.int x0] σ ((f_MM_isMap F σ x0).bind (am_kPI σ)) := by
  refine am_Met.of (lv := [some (.int x0)]) (am_cc rfl am_c0) (Nat.le_of_ble_eq_true rfl) rfl (by decide) ?_
  unfold f_MM_isMap
  refine aw_iload_n 0 (kk := ?_)
  refine aw_if_lt 12 13 (kt := fun _ => ?_) (kf := fun _ => ?_)
  · refine aw_iconst 0 (v := 0) (kk := ?_)
    exact aw_zretPL (by decide)
  · refine aw_iload_n 0 (kk := ?_)
    refine aw_iconst 3 (v := 3) (kk := ?_)
    refine aw_icmp_ge 7 13 (kt := fun _ => ?_) (kf := fun _ => ?_)
    · refine aw_iconst 0 (v := 0) (kk := ?_)
      exact aw_zretPL (by decide)
    · refine aw_iconst 1 (v := 1) (kk := ?_)
      refine aw_goto 4 14 (kk := ?_)
      exact aw_zretPL (by decide)
def f_MM_firstArgumentIsPath (F : Nat) (σ : am_S) (x0 : Nat) : Option (Int32) :=
  am_ck σ 0 x0 (
  (am_gA σ 0 0 x0).bind fun v1 =>
  (f_In_bytes F σ v1).bind fun v2 =>
  (am_gA σ 0 0 x0).bind fun v3 =>
  (f_In_argumentLength F σ v3 0).bind fun v4 =>
  (f_Rw_isPath F σ v2 0 v4).bind fun v5 =>
  if v5 = 0 ∨ v5 = 1 then some v5 else none)
theorem rc_MM_firstArgumentIsPath {F : Nat} {σ : am_S} {x0 : Nat} (h : (f_MM_firstArgumentIsPath F σ x0).isSome = true) : ∃ fs, σ.2.2 x0 = some (.inr (0, fs)) := am_ck_some h
theorem m_MM_firstArgumentIsPath (g : am_G) (F : Nat) (σ : am_S) (x0 : Nat) : am_Met g mx_MM_firstArgumentIsPath [.ref x0] σ ((f_MM_firstArgumentIsPath F σ x0).bind (am_kPI σ)) := by
  refine am_Met.of (lv := [some (.ref x0)]) (am_cc rfl am_c0) (Nat.le_of_ble_eq_true rfl) rfl (by decide) ?_
  unfold f_MM_firstArgumentIsPath
  refine am_W.ck ?_
  refine aw_aload_n 0 (kk := ?_)
  refine aw_gA 0 0 10 (hw := wd_331) (kk := fun v1 => ?_)
  refine ac_PA (st := []) [.ref v1] (ag_V 161 1 rc_In_bytes wd_524 cal_In_bytes wd_525 wd_526) cal_In_bytes ⟨by decide, by decide⟩ (Nat.le_of_ble_eq_true rfl) (m_In_bytes g F σ v1) (fun v2 => ?_)
  refine aw_iconst 0 (v := 0) (kk := ?_)
  refine aw_aload_n 0 (kk := ?_)
  refine aw_gA 0 0 10 (hw := wd_331) (kk := fun v3 => ?_)
  refine aw_iconst 0 (v := 0) (kk := ?_)
  refine ac_PI (st := [.int 0, .ref v2]) [.ref v3, .int 0] (ag_V 165 1 rc_In_argumentLength wd_528 cal_In_argumentLength wd_529 wd_530) cal_In_argumentLength ⟨by decide, by decide⟩ (Nat.le_of_ble_eq_true rfl) (m_In_argumentLength g F σ v3 0) (fun v4 => ?_)
  refine ac_PI (st := []) [.ref v2, .int 0, .int v4] (ag_S 189 wd_532 cal_Rw_isPath wd_533) cal_Rw_isPath ⟨by decide, by decide⟩ (Nat.le_of_ble_eq_true rfl) (m_Rw_isPath g F σ v2 0 v4) (fun v5 => ?_)
  exact aw_zretP
def f_MM_putArguments (F : Nat) (σ : am_S) (x0 : Nat) (x1 : Int32) : Option (Int32 × am_S) :=
  am_ck σ 0 x0 (
  (f_MM_isMap F σ x1).bind fun v1 =>
  if v1 = 0 then
    some ((-2), σ)
  else
    (am_gA σ 0 0 x0).bind fun v2 =>
    (f_In_argumentCount F σ v2).bind fun v3 =>
    if v3 = 2 then
      (f_MM_firstArgumentIsPath F σ x0).bind fun v4 =>
      if v4 = 0 then
        some ((-2), σ)
      else
        (am_gA σ 0 0 x0).bind fun v5 =>
        (f_In_bytes F σ v5).bind fun v6 =>
        (am_gA σ 0 0 x0).bind fun v7 =>
        (f_In_argumentLength F σ v7 0).bind fun v8 =>
        (am_gA σ 0 2 x0).bind fun v9 =>
        (am_lA σ 4 v9 x1).bind fun v10 =>
        (f_Pm_wouldFit F σ v10 v6 0 v8).bind fun v11 =>
        if v11 = 0 then
          some ((-3), σ)
        else
          (am_gA σ 0 1 x0).bind fun v12 =>
          (am_gA σ 0 0 x0).bind fun v13 =>
          (f_In_argumentStart F σ v13 1).bind fun v14 =>
          (am_gA σ 0 0 x0).bind fun v15 =>
          (f_In_argumentLength F σ v15 1).bind fun v16 =>
          am_b2 (f_Bl_findOrAdd F σ v12 v6 v14 v16) fun v17 σ18 =>
          if 0 ≤ v17 then
            (am_gA σ18 0 2 x0).bind fun v19 =>
            (am_lA σ18 4 v19 x1).bind fun v20 =>
            (f_Pm_assign F σ18 v20 v6 0 v8 v17).bind fun σ21 =>
            some (v17, σ21)
          else
            some ((-3), σ18)
    else
      some ((-2), σ))
theorem rc_MM_putArguments {F : Nat} {σ : am_S} {x0 : Nat} {x1 : Int32} (h : (f_MM_putArguments F σ x0 x1).isSome = true) : ∃ fs, σ.2.2 x0 = some (.inr (0, fs)) := am_ck_some h
theorem m_MM_putArguments (g : am_G) (F : Nat) (σ : am_S) (x0 : Nat) (x1 : Int32) : am_Met g mx_MM_putArguments [.ref x0, .int x1] σ ((f_MM_putArguments F σ x0 x1).bind am_kI) := by
  refine am_Met.of (lv := [some (.ref x0), some (.int x1), none, none, none]) (am_cc rfl (am_cc rfl am_c0)) (Nat.le_of_ble_eq_true rfl) rfl (by decide) ?_
  unfold f_MM_putArguments
  refine am_W.ck ?_
  refine aw_iload_n 1 (kk := ?_)
  refine ac_PI (st := []) [.int x1] (ag_S 88 wd_517 cal_MM_isMap wd_518) cal_MM_isMap ⟨by decide, by decide⟩ (Nat.le_of_ble_eq_true rfl) (m_MM_isMap g F σ x1) (fun v1 => ?_)
  refine aw_if_eq 21 25 (kt := fun _ => ?_) (kf := fun _ => ?_)
  · refine aw_bipush (-2) (v := (-2)) (kk := ?_)
    exact aw_iret
  · refine aw_aload_n 0 (kk := ?_)
    refine aw_gA 0 0 10 (hw := wd_331) (kk := fun v2 => ?_)
    refine ac_PI (st := []) [.ref v2] (ag_V 72 1 rc_In_argumentCount wd_380 cal_In_argumentCount wd_381 wd_382) cal_In_argumentCount ⟨by decide, by decide⟩ (Nat.le_of_ble_eq_true rfl) (m_In_argumentCount g F σ v2) (fun v3 => ?_)
    refine aw_iconst 2 (v := 2) (kk := ?_)
    refine aw_icmp_ne 10 25 (kt := fun _ => ?_) (kf := fun _ => ?_)
    · refine aw_bipush (-2) (v := (-2)) (kk := ?_)
      exact aw_iret
    · refine aw_aload_n 0 (kk := ?_)
      refine ac_PI (st := []) [.ref x0] (ag_V 157 0 rc_MM_firstArgumentIsPath wd_520 cal_MM_firstArgumentIsPath wd_522 ws_4) cal_MM_firstArgumentIsPath ⟨by decide, by decide⟩ (Nat.le_of_ble_eq_true rfl) (m_MM_firstArgumentIsPath g F σ x0) (fun v4 => ?_)
      refine aw_if_ne 6 28 (kt := fun _ => ?_) (kf := fun _ => ?_)
      · refine aw_aload_n 0 (kk := ?_)
        refine aw_gA 0 0 10 (hw := wd_331) (kk := fun v5 => ?_)
        refine ac_PA (st := []) [.ref v5] (ag_V 161 1 rc_In_bytes wd_524 cal_In_bytes wd_525 wd_526) cal_In_bytes ⟨by decide, by decide⟩ (Nat.le_of_ble_eq_true rfl) (m_In_bytes g F σ v5) (fun v6 => ?_)
        refine aw_astore_n 2 (kk := ?_)
        refine aw_aload_n 0 (kk := ?_)
        refine aw_gA 0 0 10 (hw := wd_331) (kk := fun v7 => ?_)
        refine aw_iconst 0 (v := 0) (kk := ?_)
        refine ac_PI (st := []) [.ref v7, .int 0] (ag_V 165 1 rc_In_argumentLength wd_528 cal_In_argumentLength wd_529 wd_530) cal_In_argumentLength ⟨by decide, by decide⟩ (Nat.le_of_ble_eq_true rfl) (m_In_argumentLength g F σ v7 0) (fun v8 => ?_)
        refine aw_istore_n 3 (kk := ?_)
        refine aw_aload_n 0 (kk := ?_)
        refine aw_gA 0 2 25 (hw := wd_333) (kk := fun v9 => ?_)
        refine aw_iload_n 1 (kk := ?_)
        refine aw_lA 4 (kk := fun v10 => ?_)
        refine aw_aload_n 2 (kk := ?_)
        refine aw_iconst 0 (v := 0) (kk := ?_)
        refine aw_iload_n 3 (kk := ?_)
        refine ac_PI (st := []) [.ref v10, .ref v6, .int 0, .int v8] (ag_V 168 4 rc_Pm_wouldFit wd_541 cal_Pm_wouldFit wd_542 wd_543) cal_Pm_wouldFit ⟨by decide, by decide⟩ (Nat.le_of_ble_eq_true rfl) (m_Pm_wouldFit g F σ v10 v6 0 v8) (fun v11 => ?_)
        refine aw_if_ne 6 63 (kt := fun _ => ?_) (kf := fun _ => ?_)
        · refine aw_aload_n 0 (kk := ?_)
          refine aw_gA 0 1 19 (hw := wd_332) (kk := fun v12 => ?_)
          refine aw_aload_n 2 (kk := ?_)
          refine aw_aload_n 0 (kk := ?_)
          refine aw_gA 0 0 10 (hw := wd_331) (kk := fun v13 => ?_)
          refine aw_iconst 1 (v := 1) (kk := ?_)
          refine ac_PI (st := [.ref v6, .ref v12]) [.ref v13, .int 1] (ag_V 172 1 rc_In_argumentStart wd_583 cal_In_argumentStart wd_377 wd_378) cal_In_argumentStart ⟨by decide, by decide⟩ (Nat.le_of_ble_eq_true rfl) (m_In_argumentStart g F σ v13 1) (fun v14 => ?_)
          refine aw_aload_n 0 (kk := ?_)
          refine aw_gA 0 0 10 (hw := wd_331) (kk := fun v15 => ?_)
          refine aw_iconst 1 (v := 1) (kk := ?_)
          refine ac_PI (st := [.int v14, .ref v6, .ref v12]) [.ref v15, .int 1] (ag_V 165 1 rc_In_argumentLength wd_528 cal_In_argumentLength wd_529 wd_530) cal_In_argumentLength ⟨by decide, by decide⟩ (Nat.le_of_ble_eq_true rfl) (m_In_argumentLength g F σ v15 1) (fun v16 => ?_)
          refine ac_I (st := []) [.ref v12, .ref v6, .int v14, .int v16] (ag_V 175 2 rc_Bl_findOrAdd wd_584 cal_Bl_findOrAdd wd_585 wd_586) cal_Bl_findOrAdd ⟨by decide, by decide⟩ (Nat.le_of_ble_eq_true rfl) (m_Bl_findOrAdd g F σ v12 v6 v14 v16) (fun v17 σ18 => ?_)
          refine aw_istore 4 (kk := ?_)
          refine aw_iload 4 (kk := ?_)
          refine aw_if_ge 6 97 (kt := fun _ => ?_) (kf := fun _ => ?_)
          · refine aw_aload_n 0 (kk := ?_)
            refine aw_gA 0 2 25 (hw := wd_333) (kk := fun v19 => ?_)
            refine aw_iload_n 1 (kk := ?_)
            refine aw_lA 4 (kk := fun v20 => ?_)
            refine aw_aload_n 2 (kk := ?_)
            refine aw_iconst 0 (v := 0) (kk := ?_)
            refine aw_iload_n 3 (kk := ?_)
            refine aw_iload 4 (kk := ?_)
            refine ac_V (st := []) [.ref v20, .ref v6, .int 0, .int v8, .int v17] (ag_V 179 4 rc_Pm_assign wd_624 cal_Pm_assign wd_625 wd_626) cal_Pm_assign ⟨by decide, by decide⟩ (Nat.le_of_ble_eq_true rfl) (m_Pm_assign g F σ18 v20 v6 0 v8 v17) (fun σ21 => ?_)
            refine aw_iload 4 (kk := ?_)
            exact aw_iret
          · refine aw_bipush (-3) (v := (-3)) (kk := ?_)
            exact aw_iret
        · refine aw_bipush (-3) (v := (-3)) (kk := ?_)
          exact aw_iret
      · refine aw_bipush (-2) (v := (-2)) (kk := ?_)
        exact aw_iret
def f_MM_answerOrThrow (F : Nat) (σ : am_S) (x0 : Int32) : Option ((Nat ⊕ Int32) × am_S) :=
  if x0 = (-2) then
    some (.inl σ.1, am_nx σ 13)
  else
    if x0 = (-3) then
      some (.inl σ.1, am_nx σ 14)
    else
      if x0 = (-4) then
        some (.inl σ.1, am_nx σ 15)
      else
        some (.inr x0, σ)
theorem m_MM_answerOrThrow (g : am_G) (F : Nat) (σ : am_S) (x0 : Int32) : am_Met g mx_MM_answerOrThrow [.int x0] σ ((f_MM_answerOrThrow F σ x0).bind am_kTI) := by
  refine am_Met.of (lv := [some (.int x0)]) (am_cc rfl am_c0) (Nat.le_of_ble_eq_true rfl) rfl (by decide) ?_
  unfold f_MM_answerOrThrow
  refine aw_iload_n 0 (kk := ?_)
  refine aw_bipush (-2) (v := (-2)) (kk := ?_)
  refine aw_icmp_ne 11 14 (kt := fun _ => ?_) (kf := fun _ => ?_)
  · refine aw_iload_n 0 (kk := ?_)
    refine aw_bipush (-3) (v := (-3)) (kk := ?_)
    refine aw_icmp_ne 11 28 (kt := fun _ => ?_) (kf := fun _ => ?_)
    · refine aw_iload_n 0 (kk := ?_)
      refine aw_bipush (-4) (v := (-4)) (kk := ?_)
      refine aw_icmp_ne 11 42 (kt := fun _ => ?_) (kf := fun _ => ?_)
      · refine aw_iload_n 0 (kk := ?_)
        exact aw_iretT
      · refine aw_xnew 15 105 107 (hw := wd_640) (hw2 := wd_641) (hw3 := wd_22) (hx := am_xs15) (hr := Nat.le_of_ble_eq_true rfl) (kk := ?_)
        refine aw_throw (kk := ?_)
        exact at_outI
    · refine aw_xnew 14 52 54 (hw := wd_396) (hw2 := wd_397) (hw3 := wd_17) (hx := am_xs14) (hr := Nat.le_of_ble_eq_true rfl) (kk := ?_)
      refine aw_throw (kk := ?_)
      exact at_outI
  · refine aw_xnew 13 63 65 (hw := wd_472) (hw2 := wd_473) (hw3 := wd_18) (hx := am_xs13) (hr := Nat.le_of_ble_eq_true rfl) (kk := ?_)
    refine aw_throw (kk := ?_)
    exact at_outI
def f_MM_put (F : Nat) (σ : am_S) (x0 : Nat) (x1 : Int32) : Option ((Nat ⊕ Int32) × am_S) :=
  am_ck σ 0 x0 (
  am_b2 (f_MM_putArguments F σ x0 x1) fun v1 σ2 =>
  (am_gA σ2 0 0 x0).bind fun v3 =>
  (f_In_takeArguments F σ2 v3).bind fun σ4 =>
  am_bt (f_MM_answerOrThrow F σ4 v1) (fun a5 σ6 => some (.inl a5, σ6)) fun v7 σ8 =>
  some (.inr v7, σ8))
theorem rc_MM_put {F : Nat} {σ : am_S} {x0 : Nat} {x1 : Int32} (h : (f_MM_put F σ x0 x1).isSome = true) : ∃ fs, σ.2.2 x0 = some (.inr (0, fs)) := am_ck_some h
theorem m_MM_put (g : am_G) (F : Nat) (σ : am_S) (x0 : Nat) (x1 : Int32) : am_Met g mx_MM_put [.ref x0, .int x1] σ ((f_MM_put F σ x0 x1).bind am_kTI) := by
  refine am_Met.of (lv := [some (.ref x0), some (.int x1), none]) (am_cc rfl (am_cc rfl am_c0)) (Nat.le_of_ble_eq_true rfl) rfl (by decide) ?_
  unfold f_MM_put
  refine am_W.ck ?_
  refine aw_aload_n 0 (kk := ?_)
  refine aw_iload_n 1 (kk := ?_)
  refine ac_I (st := []) [.ref x0, .int x1] (ag_V 75 0 rc_MM_putArguments wd_513 cal_MM_putArguments wd_515 ws_3) cal_MM_putArguments ⟨by decide, by decide⟩ (Nat.le_of_ble_eq_true rfl) (m_MM_putArguments g F σ x0 x1) (fun v1 σ2 => ?_)
  refine aw_istore_n 2 (kk := ?_)
  refine aw_aload_n 0 (kk := ?_)
  refine aw_gA 0 0 10 (hw := wd_331) (kk := fun v3 => ?_)
  refine ac_V (st := []) [.ref v3] (ag_V 79 1 rc_In_takeArguments wd_633 cal_In_takeArguments wd_634 wd_635) cal_In_takeArguments ⟨by decide, by decide⟩ (Nat.le_of_ble_eq_true rfl) (m_In_takeArguments g F σ2 v3) (fun σ4 => ?_)
  refine aw_iload_n 2 (kk := ?_)
  refine ac_TI (st := []) [.int v1] (ag_S 82 wd_637 cal_MM_answerOrThrow wd_638) cal_MM_answerOrThrow ⟨by decide, by decide⟩ (Nat.le_of_ble_eq_true rfl) (m_MM_answerOrThrow g F σ4 v1) (fun a5 σ6 => ?_) (fun v7 σ8 => ?_)
  · exact at_outI
  exact aw_iretT
def f_MM_dropArgument (F : Nat) (σ : am_S) (x0 : Nat) (x1 : Int32) : Option (Int32 × am_S) :=
  am_ck σ 0 x0 (
  (f_MM_isMap F σ x1).bind fun v1 =>
  if v1 = 0 then
    some ((-2), σ)
  else
    (am_gA σ 0 0 x0).bind fun v2 =>
    (f_In_argumentCount F σ v2).bind fun v3 =>
    if v3 = 1 then
      (f_MM_firstArgumentIsPath F σ x0).bind fun v4 =>
      if v4 = 0 then
        some ((-2), σ)
      else
        (am_gA σ 0 2 x0).bind fun v5 =>
        (am_lA σ 4 v5 x1).bind fun v6 =>
        (am_gA σ 0 0 x0).bind fun v7 =>
        (f_In_bytes F σ v7).bind fun v8 =>
        (am_gA σ 0 0 x0).bind fun v9 =>
        (f_In_argumentLength F σ v9 0).bind fun v10 =>
        (f_Pm_find F σ v6 v8 0 v10).bind fun v11 =>
        if 0 ≤ v11 then
          (am_gA σ 0 2 x0).bind fun v12 =>
          (am_lA σ 4 v12 x1).bind fun v13 =>
          (f_Pm_removeAt F σ v13 v11).bind fun σ14 =>
          some (0, σ14)
        else
          some ((-4), σ)
    else
      some ((-2), σ))
theorem rc_MM_dropArgument {F : Nat} {σ : am_S} {x0 : Nat} {x1 : Int32} (h : (f_MM_dropArgument F σ x0 x1).isSome = true) : ∃ fs, σ.2.2 x0 = some (.inr (0, fs)) := am_ck_some h
theorem m_MM_dropArgument (g : am_G) (F : Nat) (σ : am_S) (x0 : Nat) (x1 : Int32) : am_Met g mx_MM_dropArgument [.ref x0, .int x1] σ ((f_MM_dropArgument F σ x0 x1).bind am_kI) := by
  refine am_Met.of (lv := [some (.ref x0), some (.int x1), none]) (am_cc rfl (am_cc rfl am_c0)) (Nat.le_of_ble_eq_true rfl) rfl (by decide) ?_
  unfold f_MM_dropArgument
  refine am_W.ck ?_
  refine aw_iload_n 1 (kk := ?_)
  refine ac_PI (st := []) [.int x1] (ag_S 88 wd_517 cal_MM_isMap wd_518) cal_MM_isMap ⟨by decide, by decide⟩ (Nat.le_of_ble_eq_true rfl) (m_MM_isMap g F σ x1) (fun v1 => ?_)
  refine aw_if_eq 21 25 (kt := fun _ => ?_) (kf := fun _ => ?_)
  · refine aw_bipush (-2) (v := (-2)) (kk := ?_)
    exact aw_iret
  · refine aw_aload_n 0 (kk := ?_)
    refine aw_gA 0 0 10 (hw := wd_331) (kk := fun v2 => ?_)
    refine ac_PI (st := []) [.ref v2] (ag_V 72 1 rc_In_argumentCount wd_380 cal_In_argumentCount wd_381 wd_382) cal_In_argumentCount ⟨by decide, by decide⟩ (Nat.le_of_ble_eq_true rfl) (m_In_argumentCount g F σ v2) (fun v3 => ?_)
    refine aw_iconst 1 (v := 1) (kk := ?_)
    refine aw_icmp_ne 10 25 (kt := fun _ => ?_) (kf := fun _ => ?_)
    · refine aw_bipush (-2) (v := (-2)) (kk := ?_)
      exact aw_iret
    · refine aw_aload_n 0 (kk := ?_)
      refine ac_PI (st := []) [.ref x0] (ag_V 157 0 rc_MM_firstArgumentIsPath wd_520 cal_MM_firstArgumentIsPath wd_522 ws_4) cal_MM_firstArgumentIsPath ⟨by decide, by decide⟩ (Nat.le_of_ble_eq_true rfl) (m_MM_firstArgumentIsPath g F σ x0) (fun v4 => ?_)
      refine aw_if_ne 6 28 (kt := fun _ => ?_) (kf := fun _ => ?_)
      · refine aw_aload_n 0 (kk := ?_)
        refine aw_gA 0 2 25 (hw := wd_333) (kk := fun v5 => ?_)
        refine aw_iload_n 1 (kk := ?_)
        refine aw_lA 4 (kk := fun v6 => ?_)
        refine aw_aload_n 0 (kk := ?_)
        refine aw_gA 0 0 10 (hw := wd_331) (kk := fun v7 => ?_)
        refine ac_PA (st := [.ref v6]) [.ref v7] (ag_V 161 1 rc_In_bytes wd_524 cal_In_bytes wd_525 wd_526) cal_In_bytes ⟨by decide, by decide⟩ (Nat.le_of_ble_eq_true rfl) (m_In_bytes g F σ v7) (fun v8 => ?_)
        refine aw_iconst 0 (v := 0) (kk := ?_)
        refine aw_aload_n 0 (kk := ?_)
        refine aw_gA 0 0 10 (hw := wd_331) (kk := fun v9 => ?_)
        refine aw_iconst 0 (v := 0) (kk := ?_)
        refine ac_PI (st := [.int 0, .ref v8, .ref v6]) [.ref v9, .int 0] (ag_V 165 1 rc_In_argumentLength wd_528 cal_In_argumentLength wd_529 wd_530) cal_In_argumentLength ⟨by decide, by decide⟩ (Nat.le_of_ble_eq_true rfl) (m_In_argumentLength g F σ v9 0) (fun v10 => ?_)
        refine ac_PI (st := []) [.ref v6, .ref v8, .int 0, .int v10] (ag_V 183 4 rc_Pm_find wd_667 cal_Pm_find wd_546 wd_547) cal_Pm_find ⟨by decide, by decide⟩ (Nat.le_of_ble_eq_true rfl) (m_Pm_find g F σ v6 v8 0 v10) (fun v11 => ?_)
        refine aw_istore_n 2 (kk := ?_)
        refine aw_iload_n 2 (kk := ?_)
        refine aw_if_ge 6 61 (kt := fun _ => ?_) (kf := fun _ => ?_)
        · refine aw_aload_n 0 (kk := ?_)
          refine aw_gA 0 2 25 (hw := wd_333) (kk := fun v12 => ?_)
          refine aw_iload_n 1 (kk := ?_)
          refine aw_lA 4 (kk := fun v13 => ?_)
          refine aw_iload_n 2 (kk := ?_)
          refine ac_V (st := []) [.ref v13, .int v11] (ag_V 186 4 rc_Pm_removeAt wd_668 cal_Pm_removeAt wd_669 wd_670) cal_Pm_removeAt ⟨by decide, by decide⟩ (Nat.le_of_ble_eq_true rfl) (m_Pm_removeAt g F σ v13 v11) (fun σ14 => ?_)
          refine aw_iconst 0 (v := 0) (kk := ?_)
          exact aw_iret
        · refine aw_bipush (-4) (v := (-4)) (kk := ?_)
          exact aw_iret
      · refine aw_bipush (-2) (v := (-2)) (kk := ?_)
        exact aw_iret
def f_MM_drop (F : Nat) (σ : am_S) (x0 : Nat) (x1 : Int32) : Option ((Nat ⊕ Unit) × am_S) :=
  am_ck σ 0 x0 (
  am_b2 (f_MM_dropArgument F σ x0 x1) fun v1 σ2 =>
  (am_gA σ2 0 0 x0).bind fun v3 =>
  (f_In_takeArguments F σ2 v3).bind fun σ4 =>
  am_bt (f_MM_answerOrThrow F σ4 v1) (fun a5 σ6 => some (.inl a5, σ6)) fun v7 σ8 =>
  some (.inr (), σ8))
theorem rc_MM_drop {F : Nat} {σ : am_S} {x0 : Nat} {x1 : Int32} (h : (f_MM_drop F σ x0 x1).isSome = true) : ∃ fs, σ.2.2 x0 = some (.inr (0, fs)) := am_ck_some h
theorem m_MM_drop (g : am_G) (F : Nat) (σ : am_S) (x0 : Nat) (x1 : Int32) : am_Met g mx_MM_drop [.ref x0, .int x1] σ ((f_MM_drop F σ x0 x1).bind am_kTV) := by
  refine am_Met.of (lv := [some (.ref x0), some (.int x1), none]) (am_cc rfl (am_cc rfl am_c0)) (Nat.le_of_ble_eq_true rfl) rfl (by decide) ?_
  unfold f_MM_drop
  refine am_W.ck ?_
  refine aw_aload_n 0 (kk := ?_)
  refine aw_iload_n 1 (kk := ?_)
  refine ac_I (st := []) [.ref x0, .int x1] (ag_V 85 0 rc_MM_dropArgument wd_663 cal_MM_dropArgument wd_665 ws_16) cal_MM_dropArgument ⟨by decide, by decide⟩ (Nat.le_of_ble_eq_true rfl) (m_MM_dropArgument g F σ x0 x1) (fun v1 σ2 => ?_)
  refine aw_istore_n 2 (kk := ?_)
  refine aw_aload_n 0 (kk := ?_)
  refine aw_gA 0 0 10 (hw := wd_331) (kk := fun v3 => ?_)
  refine ac_V (st := []) [.ref v3] (ag_V 79 1 rc_In_takeArguments wd_633 cal_In_takeArguments wd_634 wd_635) cal_In_takeArguments ⟨by decide, by decide⟩ (Nat.le_of_ble_eq_true rfl) (m_In_takeArguments g F σ2 v3) (fun σ4 => ?_)
  refine aw_iload_n 2 (kk := ?_)
  refine ac_TI (st := []) [.int v1] (ag_S 82 wd_637 cal_MM_answerOrThrow wd_638) cal_MM_answerOrThrow ⟨by decide, by decide⟩ (Nat.le_of_ble_eq_true rfl) (m_MM_answerOrThrow g F σ4 v1) (fun a5 σ6 => ?_) (fun v7 σ8 => ?_)
  · exact at_outV
  refine aw_pop (kk := ?_)
  exact aw_vretT
def f_MM_copy_j29 (F : Nat) (x0 : Nat) (x1 : Int32) (x2 : Int32) (t2 : Int32)  (σ : am_S) : Option ((Nat ⊕ Unit) × am_S) :=
  (am_gA σ 0 0 x0).bind fun v3 =>
  (f_In_takeArguments F σ v3).bind fun σ4 =>
  if t2 = 0 then
    (am_gA σ4 0 2 x0).bind fun v5 =>
    (am_lA σ4 4 v5 x2).bind fun v6 =>
    (am_gA σ4 0 2 x0).bind fun v7 =>
    (am_lA σ4 4 v7 x1).bind fun v8 =>
    (f_Pm_become F σ4 v6 v8).bind fun σ9 =>
    some (.inr (), σ9)
  else
    some (.inl σ4.1, am_nx σ4 13)
theorem b_MM_copy_j29 {g : am_G} {σ0 : am_S} (F : Nat) (x0 : Nat) (x1 : Int32) (x2 : Int32) (t2 : Int32)   (σ : am_S) : am_W g mx_MM_copy σ0 29 [some (.ref x0), some (.int x1), some (.int x2), none] [.int t2] σ (f_MM_copy_j29 F x0 x1 x2 t2 σ) am_kTV := by
  unfold f_MM_copy_j29
  refine aw_istore_n 3 (kk := ?_)
  refine aw_aload_n 0 (kk := ?_)
  refine aw_gA 0 0 10 (hw := wd_331) (kk := fun v3 => ?_)
  refine ac_V (st := []) [.ref v3] (ag_V 79 1 rc_In_takeArguments wd_633 cal_In_takeArguments wd_634 wd_635) cal_In_takeArguments ⟨by decide, by decide⟩ (Nat.le_of_ble_eq_true rfl) (m_In_takeArguments g F σ v3) (fun σ4 => ?_)
  refine aw_iload_n 3 (kk := ?_)
  refine aw_if_eq 11 49 (kt := fun _ => ?_) (kf := fun _ => ?_)
  · refine aw_aload_n 0 (kk := ?_)
    refine aw_gA 0 2 25 (hw := wd_333) (kk := fun v5 => ?_)
    refine aw_iload_n 2 (kk := ?_)
    refine aw_lA 4 (kk := fun v6 => ?_)
    refine aw_aload_n 0 (kk := ?_)
    refine aw_gA 0 2 25 (hw := wd_333) (kk := fun v7 => ?_)
    refine aw_iload_n 1 (kk := ?_)
    refine aw_lA 4 (kk := fun v8 => ?_)
    refine ac_V (st := []) [.ref v6, .ref v8] (ag_V 91 4 rc_Pm_become wd_679 cal_Pm_become wd_680 wd_681) cal_Pm_become ⟨by decide, by decide⟩ (Nat.le_of_ble_eq_true rfl) (m_Pm_become g F σ4 v6 v8) (fun σ9 => ?_)
    exact aw_vretT
  · refine aw_xnew 13 63 65 (hw := wd_472) (hw2 := wd_473) (hw3 := wd_18) (hx := am_xs13) (hr := Nat.le_of_ble_eq_true rfl) (kk := ?_)
    refine aw_throw (kk := ?_)
    exact at_outV
def f_MM_copy_j24 (F : Nat) (x0 : Nat) (x1 : Int32) (x2 : Int32)  (σ : am_S) : Option ((Nat ⊕ Unit) × am_S) :=
  f_MM_copy_j29 F x0 x1 x2 1 σ
theorem b_MM_copy_j24 {g : am_G} {σ0 : am_S} (F : Nat) (x0 : Nat) (x1 : Int32) (x2 : Int32)   (σ : am_S) : am_W g mx_MM_copy σ0 24 [some (.ref x0), some (.int x1), some (.int x2), none] [] σ (f_MM_copy_j24 F x0 x1 x2 σ) am_kTV := by
  unfold f_MM_copy_j24
  refine aw_iconst 1 (v := 1) (kk := ?_)
  refine aw_goto 4 29 (kk := ?_)
  exact am_W.drop [true, true, true, false] (b_MM_copy_j29 F x0 x1 x2 1 σ)
def f_MM_copy (F : Nat) (σ : am_S) (x0 : Nat) (x1 : Int32) (x2 : Int32) : Option ((Nat ⊕ Unit) × am_S) :=
  am_ck σ 0 x0 (
  (f_MM_isMap F σ x1).bind fun v1 =>
  if v1 = 0 then
    f_MM_copy_j24 F x0 x1 x2 σ
  else
    (f_MM_isMap F σ x2).bind fun v10 =>
    if v10 = 0 then
      f_MM_copy_j24 F x0 x1 x2 σ
    else
      (am_gA σ 0 0 x0).bind fun v11 =>
      (f_In_argumentCount F σ v11).bind fun v12 =>
      if v12 = 0 then
        f_MM_copy_j29 F x0 x1 x2 0 σ
      else
        f_MM_copy_j24 F x0 x1 x2 σ)
theorem rc_MM_copy {F : Nat} {σ : am_S} {x0 : Nat} {x1 : Int32} {x2 : Int32} (h : (f_MM_copy F σ x0 x1 x2).isSome = true) : ∃ fs, σ.2.2 x0 = some (.inr (0, fs)) := am_ck_some h
theorem m_MM_copy (g : am_G) (F : Nat) (σ : am_S) (x0 : Nat) (x1 : Int32) (x2 : Int32) : am_Met g mx_MM_copy [.ref x0, .int x1, .int x2] σ ((f_MM_copy F σ x0 x1 x2).bind am_kTV) := by
  refine am_Met.of (lv := [some (.ref x0), some (.int x1), some (.int x2), none]) (am_cc rfl (am_cc rfl (am_cc rfl am_c0))) (Nat.le_of_ble_eq_true rfl) rfl (by decide) ?_
  unfold f_MM_copy
  refine am_W.ck ?_
  refine aw_iload_n 1 (kk := ?_)
  refine ac_PI (st := []) [.int x1] (ag_S 88 wd_517 cal_MM_isMap wd_518) cal_MM_isMap ⟨by decide, by decide⟩ (Nat.le_of_ble_eq_true rfl) (m_MM_isMap g F σ x1) (fun v1 => ?_)
  refine aw_if_eq 20 24 (kt := fun _ => ?_) (kf := fun _ => ?_)
  · exact am_W.drop [true, true, true, false] (b_MM_copy_j24 F x0 x1 x2 σ)
  · refine aw_iload_n 2 (kk := ?_)
    refine ac_PI (st := []) [.int x2] (ag_S 88 wd_517 cal_MM_isMap wd_518) cal_MM_isMap ⟨by decide, by decide⟩ (Nat.le_of_ble_eq_true rfl) (m_MM_isMap g F σ x2) (fun v10 => ?_)
    refine aw_if_eq 13 24 (kt := fun _ => ?_) (kf := fun _ => ?_)
    · exact am_W.drop [true, true, true, false] (b_MM_copy_j24 F x0 x1 x2 σ)
    · refine aw_aload_n 0 (kk := ?_)
      refine aw_gA 0 0 10 (hw := wd_331) (kk := fun v11 => ?_)
      refine ac_PI (st := []) [.ref v11] (ag_V 72 1 rc_In_argumentCount wd_380 cal_In_argumentCount wd_381 wd_382) cal_In_argumentCount ⟨by decide, by decide⟩ (Nat.le_of_ble_eq_true rfl) (m_In_argumentCount g F σ v11) (fun v12 => ?_)
      refine aw_if_eq 7 28 (kt := fun _ => ?_) (kf := fun _ => ?_)
      · refine aw_iconst 0 (v := 0) (kk := ?_)
        exact am_W.drop [true, true, true, false] (b_MM_copy_j29 F x0 x1 x2 0 σ)
      · exact am_W.drop [true, true, true, false] (b_MM_copy_j24 F x0 x1 x2 σ)
def f_MM_merge_j39 (F : Nat) (t9 : Int32)  (σ : am_S) : Option ((Nat ⊕ Int32) × am_S) :=
  am_bt (f_MM_answerOrThrow F σ t9) (fun a10 σ11 => some (.inl a10, σ11)) fun v12 σ13 =>
  some (.inr v12, σ13)
theorem b_MM_merge_j39 {g : am_G} {σ0 : am_S} (F : Nat) (t9 : Int32)   (σ : am_S) : am_W g mx_MM_merge σ0 39 [none, none] [.int t9] σ (f_MM_merge_j39 F t9 σ) am_kTI := by
  unfold f_MM_merge_j39
  refine ac_TI (st := []) [.int t9] (ag_S 82 wd_637 cal_MM_answerOrThrow wd_638) cal_MM_answerOrThrow ⟨by decide, by decide⟩ (Nat.le_of_ble_eq_true rfl) (m_MM_answerOrThrow g F σ t9) (fun a10 σ11 => ?_) (fun v12 σ13 => ?_)
  · exact at_outI
  exact aw_iretT
def f_MM_merge_j15 (F : Nat) (x0 : Nat) (t3 : Int32)  (σ : am_S) : Option ((Nat ⊕ Int32) × am_S) :=
  (am_gA σ 0 0 x0).bind fun v4 =>
  (f_In_takeArguments F σ v4).bind fun σ5 =>
  if t3 = 0 then
    (am_gA σ5 0 4 x0).bind fun v6 =>
    am_b2 (f_Mg_mergeMaps F σ5 v6) fun v7 σ8 =>
    f_MM_merge_j39 F v7 σ8
  else
    f_MM_merge_j39 F (-2) σ5
theorem b_MM_merge_j15 {g : am_G} {σ0 : am_S} (F : Nat) (x0 : Nat) (t3 : Int32)   (σ : am_S) : am_W g mx_MM_merge σ0 15 [some (.ref x0), none] [.int t3] σ (f_MM_merge_j15 F x0 t3 σ) am_kTI := by
  unfold f_MM_merge_j15
  refine aw_istore_n 1 (kk := ?_)
  refine aw_aload_n 0 (kk := ?_)
  refine aw_gA 0 0 10 (hw := wd_331) (kk := fun v4 => ?_)
  refine ac_V (st := []) [.ref v4] (ag_V 79 1 rc_In_takeArguments wd_633 cal_In_takeArguments wd_634 wd_635) cal_In_takeArguments ⟨by decide, by decide⟩ (Nat.le_of_ble_eq_true rfl) (m_In_takeArguments g F σ v4) (fun σ5 => ?_)
  refine aw_iload_n 1 (kk := ?_)
  refine aw_if_eq 8 32 (kt := fun _ => ?_) (kf := fun _ => ?_)
  · refine aw_aload_n 0 (kk := ?_)
    refine aw_gA 0 4 44 (hw := wd_335) (kk := fun v6 => ?_)
    refine ac_I (st := []) [.ref v6] (ag_V 95 6 rc_Mg_mergeMaps wd_690 cal_Mg_mergeMaps wd_691 wd_692) cal_Mg_mergeMaps ⟨by decide, by decide⟩ (Nat.le_of_ble_eq_true rfl) (m_Mg_mergeMaps g F σ5 v6) (fun v7 σ8 => ?_)
    exact am_W.drop [false, false] (b_MM_merge_j39 F v7 σ8)
  · refine aw_bipush (-2) (v := (-2)) (kk := ?_)
    refine aw_goto 10 39 (kk := ?_)
    exact am_W.drop [false, false] (b_MM_merge_j39 F (-2) σ5)
def f_MM_merge (F : Nat) (σ : am_S) (x0 : Nat) : Option ((Nat ⊕ Int32) × am_S) :=
  am_ck σ 0 x0 (
  (am_gA σ 0 0 x0).bind fun v1 =>
  (f_In_argumentCount F σ v1).bind fun v2 =>
  if v2 = 0 then
    f_MM_merge_j15 F x0 0 σ
  else
    f_MM_merge_j15 F x0 1 σ)
theorem rc_MM_merge {F : Nat} {σ : am_S} {x0 : Nat} (h : (f_MM_merge F σ x0).isSome = true) : ∃ fs, σ.2.2 x0 = some (.inr (0, fs)) := am_ck_some h
theorem m_MM_merge (g : am_G) (F : Nat) (σ : am_S) (x0 : Nat) : am_Met g mx_MM_merge [.ref x0] σ ((f_MM_merge F σ x0).bind am_kTI) := by
  refine am_Met.of (lv := [some (.ref x0), none]) (am_cc rfl am_c0) (Nat.le_of_ble_eq_true rfl) rfl (by decide) ?_
  unfold f_MM_merge
  refine am_W.ck ?_
  refine aw_aload_n 0 (kk := ?_)
  refine aw_gA 0 0 10 (hw := wd_331) (kk := fun v1 => ?_)
  refine ac_PI (st := []) [.ref v1] (ag_V 72 1 rc_In_argumentCount wd_380 cal_In_argumentCount wd_381 wd_382) cal_In_argumentCount ⟨by decide, by decide⟩ (Nat.le_of_ble_eq_true rfl) (m_In_argumentCount g F σ v1) (fun v2 => ?_)
  refine aw_if_eq 7 14 (kt := fun _ => ?_) (kf := fun _ => ?_)
  · refine aw_iconst 0 (v := 0) (kk := ?_)
    exact am_W.drop [true, false] (b_MM_merge_j15 F x0 0 σ)
  · refine aw_iconst 1 (v := 1) (kk := ?_)
    refine aw_goto 4 15 (kk := ?_)
    exact am_W.drop [true, false] (b_MM_merge_j15 F x0 1 σ)
def f_MM_renamed (F : Nat) (σ : am_S) (x0 : Nat) (x1 : Int32) (x2 : Int32) (x3 : Int32) (x4 : Int32) : Option ((Nat ⊕ Int32) × am_S) :=
  am_ck σ 0 x0 (
  (f_MM_isMap F σ x1).bind fun v1 =>
  if v1 = 0 then
    some (.inl σ.1, am_nx σ 13)
  else
    (f_MM_isMap F σ x2).bind fun v2 =>
    if v2 = 0 then
      some (.inl σ.1, am_nx σ 13)
    else
      if x1 = x2 then
        some (.inl σ.1, am_nx σ 13)
      else
        if x4 < 0 then
          some (.inl σ.1, am_nx σ 13)
        else
          if x4 ≤ 2 then
            (am_gA σ 0 3 x0).bind fun v3 =>
            (am_gA σ 0 2 x0).bind fun v4 =>
            (am_lA σ 4 v4 x1).bind fun v5 =>
            (am_gA σ 0 2 x0).bind fun v6 =>
            (am_lA σ 4 v6 x2).bind fun v7 =>
            (f_Rn_search F σ v3 v5 v7).bind fun σ8 =>
            (am_gA σ8 0 3 x0).bind fun v9 =>
            (f_Rn_goneOfRename F σ8 v9 x3).bind fun v10 =>
            if 0 ≤ v10 then
              if x4 = 0 then
                some (.inr v10, σ8)
              else
                if x4 = 1 then
                  (am_gA σ8 0 3 x0).bind fun v13 =>
                  (f_Rn_partnerOf F σ8 v13 v10).bind fun v14 =>
                  some (.inr v14, σ8)
                else
                  (am_gA σ8 0 3 x0).bind fun v11 =>
                  (f_Rn_scoreOf F σ8 v11 v10).bind fun v12 =>
                  some (.inr v12, σ8)
            else
              some (.inl σ8.1, am_nx σ8 15)
          else
            some (.inl σ.1, am_nx σ 13))
theorem rc_MM_renamed {F : Nat} {σ : am_S} {x0 : Nat} {x1 : Int32} {x2 : Int32} {x3 : Int32} {x4 : Int32} (h : (f_MM_renamed F σ x0 x1 x2 x3 x4).isSome = true) : ∃ fs, σ.2.2 x0 = some (.inr (0, fs)) := am_ck_some h
theorem m_MM_renamed (g : am_G) (F : Nat) (σ : am_S) (x0 : Nat) (x1 : Int32) (x2 : Int32) (x3 : Int32) (x4 : Int32) : am_Met g mx_MM_renamed [.ref x0, .int x1, .int x2, .int x3, .int x4] σ ((f_MM_renamed F σ x0 x1 x2 x3 x4).bind am_kTI) := by
  refine am_Met.of (lv := [some (.ref x0), some (.int x1), some (.int x2), some (.int x3), some (.int x4), none]) (am_cc rfl (am_cc rfl (am_cc rfl (am_cc rfl (am_cc rfl am_c0))))) (Nat.le_of_ble_eq_true rfl) rfl (by decide) ?_
  unfold f_MM_renamed
  refine am_W.ck ?_
  refine aw_iload_n 1 (kk := ?_)
  refine ac_PI (st := []) [.int x1] (ag_S 88 wd_517 cal_MM_isMap wd_518) cal_MM_isMap ⟨by decide, by decide⟩ (Nat.le_of_ble_eq_true rfl) (m_MM_isMap g F σ x1) (fun v1 => ?_)
  refine aw_if_eq 26 30 (kt := fun _ => ?_) (kf := fun _ => ?_)
  · refine aw_xnew 13 63 65 (hw := wd_472) (hw2 := wd_473) (hw3 := wd_18) (hx := am_xs13) (hr := Nat.le_of_ble_eq_true rfl) (kk := ?_)
    refine aw_throw (kk := ?_)
    exact at_outI
  · refine aw_iload_n 2 (kk := ?_)
    refine ac_PI (st := []) [.int x2] (ag_S 88 wd_517 cal_MM_isMap wd_518) cal_MM_isMap ⟨by decide, by decide⟩ (Nat.le_of_ble_eq_true rfl) (m_MM_isMap g F σ x2) (fun v2 => ?_)
    refine aw_if_eq 19 30 (kt := fun _ => ?_) (kf := fun _ => ?_)
    · refine aw_xnew 13 63 65 (hw := wd_472) (hw2 := wd_473) (hw3 := wd_18) (hx := am_xs13) (hr := Nat.le_of_ble_eq_true rfl) (kk := ?_)
      refine aw_throw (kk := ?_)
      exact at_outI
    · refine aw_iload_n 1 (kk := ?_)
      refine aw_iload_n 2 (kk := ?_)
      refine aw_icmp_eq 14 30 (kt := fun _ => ?_) (kf := fun _ => ?_)
      · refine aw_xnew 13 63 65 (hw := wd_472) (hw2 := wd_473) (hw3 := wd_18) (hx := am_xs13) (hr := Nat.le_of_ble_eq_true rfl) (kk := ?_)
        refine aw_throw (kk := ?_)
        exact at_outI
      · refine aw_iload 4 (kk := ?_)
        refine aw_if_lt 9 30 (kt := fun _ => ?_) (kf := fun _ => ?_)
        · refine aw_xnew 13 63 65 (hw := wd_472) (hw2 := wd_473) (hw3 := wd_18) (hx := am_xs13) (hr := Nat.le_of_ble_eq_true rfl) (kk := ?_)
          refine aw_throw (kk := ?_)
          exact at_outI
        · refine aw_iload 4 (kk := ?_)
          refine aw_iconst 2 (v := 2) (kk := ?_)
          refine aw_icmp_le 11 38 (kt := fun _ => ?_) (kf := fun _ => ?_)
          · refine aw_aload_n 0 (kk := ?_)
            refine aw_gA 0 3 35 (hw := wd_334) (kk := fun v3 => ?_)
            refine aw_aload_n 0 (kk := ?_)
            refine aw_gA 0 2 25 (hw := wd_333) (kk := fun v4 => ?_)
            refine aw_iload_n 1 (kk := ?_)
            refine aw_lA 4 (kk := fun v5 => ?_)
            refine aw_aload_n 0 (kk := ?_)
            refine aw_gA 0 2 25 (hw := wd_333) (kk := fun v6 => ?_)
            refine aw_iload_n 2 (kk := ?_)
            refine aw_lA 4 (kk := fun v7 => ?_)
            refine ac_V (st := []) [.ref v3, .ref v5, .ref v7] (ag_V 98 5 rc_Rn_search wd_1015 cal_Rn_search wd_695 wd_696) cal_Rn_search ⟨by decide, by decide⟩ (Nat.le_of_ble_eq_true rfl) (m_Rn_search g F σ v3 v5 v7) (fun σ8 => ?_)
            refine aw_aload_n 0 (kk := ?_)
            refine aw_gA 0 3 35 (hw := wd_334) (kk := fun v9 => ?_)
            refine aw_iload_n 3 (kk := ?_)
            refine ac_PI (st := []) [.ref v9, .int x3] (ag_V 102 5 rc_Rn_goneOfRename wd_1016 cal_Rn_goneOfRename wd_1017 wd_1018) cal_Rn_goneOfRename ⟨by decide, by decide⟩ (Nat.le_of_ble_eq_true rfl) (m_Rn_goneOfRename g F σ8 v9 x3) (fun v10 => ?_)
            refine aw_istore 5 (kk := ?_)
            refine aw_iload 5 (kk := ?_)
            refine aw_if_ge 11 80 (kt := fun _ => ?_) (kf := fun _ => ?_)
            · refine aw_iload 4 (kk := ?_)
              refine aw_if_ne 6 88 (kt := fun _ => ?_) (kf := fun _ => ?_)
              · refine aw_iload 4 (kk := ?_)
                refine aw_iconst 1 (v := 1) (kk := ?_)
                refine aw_icmp_ne 15 106 (kt := fun _ => ?_) (kf := fun _ => ?_)
                · refine aw_aload_n 0 (kk := ?_)
                  refine aw_gA 0 3 35 (hw := wd_334) (kk := fun v11 => ?_)
                  refine aw_iload 5 (kk := ?_)
                  refine ac_PI (st := []) [.ref v11, .int v10] (ag_V 111 5 rc_Rn_scoreOf wd_1021 cal_Rn_scoreOf wd_1022 wd_1023) cal_Rn_scoreOf ⟨by decide, by decide⟩ (Nat.le_of_ble_eq_true rfl) (m_Rn_scoreOf g F σ8 v11 v10) (fun v12 => ?_)
                  exact aw_iretT
                · refine aw_aload_n 0 (kk := ?_)
                  refine aw_gA 0 3 35 (hw := wd_334) (kk := fun v13 => ?_)
                  refine aw_iload 5 (kk := ?_)
                  refine ac_PI (st := []) [.ref v13, .int v10] (ag_V 108 5 rc_Rn_partnerOf wd_1020 cal_Rn_partnerOf wd_764 wd_765) cal_Rn_partnerOf ⟨by decide, by decide⟩ (Nat.le_of_ble_eq_true rfl) (m_Rn_partnerOf g F σ8 v13 v10) (fun v14 => ?_)
                  refine aw_goto 12 115 (kk := ?_)
                  exact aw_iretT
              · refine aw_iload 5 (kk := ?_)
                exact aw_iretT
            · refine aw_xnew 15 105 107 (hw := wd_640) (hw2 := wd_641) (hw3 := wd_22) (hx := am_xs15) (hr := Nat.le_of_ble_eq_true rfl) (kk := ?_)
              refine aw_throw (kk := ?_)
              exact at_outI
          · refine aw_xnew 13 63 65 (hw := wd_472) (hw2 := wd_473) (hw3 := wd_18) (hx := am_xs13) (hr := Nat.le_of_ble_eq_true rfl) (kk := ?_)
            refine aw_throw (kk := ?_)
            exact at_outI
def f_MM_outcome (F : Nat) (σ : am_S) (x0 : Nat) (x1 : Int32) (x2 : Int32) : Option ((Nat ⊕ Int32) × am_S) :=
  am_ck σ 0 x0 (
  if x2 < 0 then
    some (.inl σ.1, am_nx σ 13)
  else
    if x2 ≤ 6 then
      (am_gA σ 0 4 x0).bind fun v1 =>
      (f_Mg_latestOutcomes F σ v1).bind fun v2 =>
      (f_Oc_has F σ v2 x1).bind fun v3 =>
      if v3 = 0 then
        some (.inl σ.1, am_nx σ 15)
      else
        if x2 = 0 then
          (f_Oc_pathLength F σ v2 x1).bind fun v5 =>
          some (.inr v5, σ)
        else
        if x2 = 1 then
          (f_Oc_isUnmerged F σ v2 x1).bind fun v7 =>
          if v7 = 0 then
            some (.inr 0, σ)
          else
            some (.inr 1, σ)
        else
        if x2 = 2 then
          (f_Oc_textLength F σ v2 x1).bind fun v9 =>
          some (.inr v9, σ)
        else
        if x2 = 3 then
          (f_Oc_stageOf F σ v2 x1 (x2 - 3)).bind fun v11 =>
          some (.inr v11, σ)
        else
        if x2 = 4 then
          (f_Oc_stageOf F σ v2 x1 (x2 - 3)).bind fun v13 =>
          some (.inr v13, σ)
        else
        if x2 = 5 then
          (f_Oc_stageOf F σ v2 x1 (x2 - 3)).bind fun v15 =>
          some (.inr v15, σ)
        else
        if x2 = 6 then
          (f_Oc_blobOf F σ v2 x1).bind fun v17 =>
          some (.inr v17, σ)
        else
        (f_Oc_stageOf F σ v2 x1 (x2 - 3)).bind fun v18 =>
        some (.inr v18, σ)
    else
      some (.inl σ.1, am_nx σ 13))
theorem rc_MM_outcome {F : Nat} {σ : am_S} {x0 : Nat} {x1 : Int32} {x2 : Int32} (h : (f_MM_outcome F σ x0 x1 x2).isSome = true) : ∃ fs, σ.2.2 x0 = some (.inr (0, fs)) := am_ck_some h
theorem m_MM_outcome (g : am_G) (F : Nat) (σ : am_S) (x0 : Nat) (x1 : Int32) (x2 : Int32) : am_Met g mx_MM_outcome [.ref x0, .int x1, .int x2] σ ((f_MM_outcome F σ x0 x1 x2).bind am_kTI) := by
  refine am_Met.of (lv := [some (.ref x0), some (.int x1), some (.int x2), none]) (am_cc rfl (am_cc rfl (am_cc rfl am_c0))) (Nat.le_of_ble_eq_true rfl) rfl (by decide) ?_
  unfold f_MM_outcome
  refine am_W.ck ?_
  refine aw_iload_n 2 (kk := ?_)
  refine aw_if_lt 9 10 (kt := fun _ => ?_) (kf := fun _ => ?_)
  · refine aw_xnew 13 63 65 (hw := wd_472) (hw2 := wd_473) (hw3 := wd_18) (hx := am_xs13) (hr := Nat.le_of_ble_eq_true rfl) (kk := ?_)
    refine aw_throw (kk := ?_)
    exact at_outI
  · refine aw_iload_n 2 (kk := ?_)
    refine aw_bipush 6 (v := 6) (kk := ?_)
    refine aw_icmp_le 11 18 (kt := fun _ => ?_) (kf := fun _ => ?_)
    · refine aw_aload_n 0 (kk := ?_)
      refine aw_gA 0 4 44 (hw := wd_335) (kk := fun v1 => ?_)
      refine ac_PA (st := []) [.ref v1] (ag_V 114 6 rc_Mg_latestOutcomes wd_363 cal_Mg_latestOutcomes wd_364 wd_365) cal_Mg_latestOutcomes ⟨by decide, by decide⟩ (Nat.le_of_ble_eq_true rfl) (m_Mg_latestOutcomes g F σ v1) (fun v2 => ?_)
      refine aw_astore_n 3 (kk := ?_)
      refine aw_aload_n 3 (kk := ?_)
      refine aw_iload_n 1 (kk := ?_)
      refine ac_PI (st := []) [.ref v2, .int x1] (ag_V 118 9 rc_Oc_has wd_1032 cal_Oc_has wd_1033 wd_1034) cal_Oc_has ⟨by decide, by decide⟩ (Nat.le_of_ble_eq_true rfl) (m_Oc_has g F σ v2 x1) (fun v3 => ?_)
      refine aw_if_ne 11 42 (kt := fun _ => ?_) (kf := fun _ => ?_)
      · refine aw_iload_n 2 (kk := ?_)
        refine am_W.ite (fun h4 => ?_) (fun h4 => ?_)
        · refine aw_tsIn 73 0 6 #[41, 47, 61, 73, 73, 73, 67] 41 84 41 (h1 := by rw [h4]; decide) (h2 := by rw [h4]; decide) (ho := by rw [h4]; decide) (kk := ?_)
          refine aw_aload_n 3 (kk := ?_)
          refine aw_iload_n 1 (kk := ?_)
          refine ac_PI (st := []) [.ref v2, .int x1] (ag_V 123 9 rc_Oc_pathLength wd_1040 cal_Oc_pathLength wd_1041 wd_1042) cal_Oc_pathLength ⟨by decide, by decide⟩ (Nat.le_of_ble_eq_true rfl) (m_Oc_pathLength g F σ v2 x1) (fun v5 => ?_)
          exact aw_iretT
        refine am_W.ite (fun h6 => ?_) (fun h6 => ?_)
        · refine aw_tsIn 73 0 6 #[41, 47, 61, 73, 73, 73, 67] 41 90 47 (h1 := by rw [h6]; decide) (h2 := by rw [h6]; decide) (ho := by rw [h6]; decide) (kk := ?_)
          refine aw_aload_n 3 (kk := ?_)
          refine aw_iload_n 1 (kk := ?_)
          refine ac_PI (st := []) [.ref v2, .int x1] (ag_V 126 9 rc_Oc_isUnmerged wd_1045 cal_Oc_isUnmerged wd_1046 wd_1047) cal_Oc_isUnmerged ⟨by decide, by decide⟩ (Nat.le_of_ble_eq_true rfl) (m_Oc_isUnmerged g F σ v2 x1) (fun v7 => ?_)
          refine aw_if_eq 7 102 (kt := fun _ => ?_) (kf := fun _ => ?_)
          · refine aw_iconst 0 (v := 0) (kk := ?_)
            exact aw_iretT
          · refine aw_iconst 1 (v := 1) (kk := ?_)
            refine aw_goto 4 103 (kk := ?_)
            exact aw_iretT
        refine am_W.ite (fun h8 => ?_) (fun h8 => ?_)
        · refine aw_tsIn 73 0 6 #[41, 47, 61, 73, 73, 73, 67] 41 104 61 (h1 := by rw [h8]; decide) (h2 := by rw [h8]; decide) (ho := by rw [h8]; decide) (kk := ?_)
          refine aw_aload_n 3 (kk := ?_)
          refine aw_iload_n 1 (kk := ?_)
          refine ac_PI (st := []) [.ref v2, .int x1] (ag_V 129 9 rc_Oc_textLength wd_1050 cal_Oc_textLength wd_1051 wd_1052) cal_Oc_textLength ⟨by decide, by decide⟩ (Nat.le_of_ble_eq_true rfl) (m_Oc_textLength g F σ v2 x1) (fun v9 => ?_)
          exact aw_iretT
        refine am_W.ite (fun h10 => ?_) (fun h10 => ?_)
        · refine aw_tsIn 73 0 6 #[41, 47, 61, 73, 73, 73, 67] 41 116 73 (h1 := by rw [h10]; decide) (h2 := by rw [h10]; decide) (ho := by rw [h10]; decide) (kk := ?_)
          refine aw_aload_n 3 (kk := ?_)
          refine aw_iload_n 1 (kk := ?_)
          refine aw_iload_n 2 (kk := ?_)
          refine aw_iconst 3 (v := 3) (kk := ?_)
          refine aw_isub (kk := ?_)
          refine ac_PI (st := []) [.ref v2, .int x1, .int (x2 - 3)] (ag_V 135 9 rc_Oc_stageOf wd_1059 cal_Oc_stageOf wd_1060 wd_1061) cal_Oc_stageOf ⟨by decide, by decide⟩ (Nat.le_of_ble_eq_true rfl) (m_Oc_stageOf g F σ v2 x1 (x2 - 3)) (fun v11 => ?_)
          exact aw_iretT
        refine am_W.ite (fun h12 => ?_) (fun h12 => ?_)
        · refine aw_tsIn 73 0 6 #[41, 47, 61, 73, 73, 73, 67] 41 116 73 (h1 := by rw [h12]; decide) (h2 := by rw [h12]; decide) (ho := by rw [h12]; decide) (kk := ?_)
          refine aw_aload_n 3 (kk := ?_)
          refine aw_iload_n 1 (kk := ?_)
          refine aw_iload_n 2 (kk := ?_)
          refine aw_iconst 3 (v := 3) (kk := ?_)
          refine aw_isub (kk := ?_)
          refine ac_PI (st := []) [.ref v2, .int x1, .int (x2 - 3)] (ag_V 135 9 rc_Oc_stageOf wd_1059 cal_Oc_stageOf wd_1060 wd_1061) cal_Oc_stageOf ⟨by decide, by decide⟩ (Nat.le_of_ble_eq_true rfl) (m_Oc_stageOf g F σ v2 x1 (x2 - 3)) (fun v13 => ?_)
          exact aw_iretT
        refine am_W.ite (fun h14 => ?_) (fun h14 => ?_)
        · refine aw_tsIn 73 0 6 #[41, 47, 61, 73, 73, 73, 67] 41 116 73 (h1 := by rw [h14]; decide) (h2 := by rw [h14]; decide) (ho := by rw [h14]; decide) (kk := ?_)
          refine aw_aload_n 3 (kk := ?_)
          refine aw_iload_n 1 (kk := ?_)
          refine aw_iload_n 2 (kk := ?_)
          refine aw_iconst 3 (v := 3) (kk := ?_)
          refine aw_isub (kk := ?_)
          refine ac_PI (st := []) [.ref v2, .int x1, .int (x2 - 3)] (ag_V 135 9 rc_Oc_stageOf wd_1059 cal_Oc_stageOf wd_1060 wd_1061) cal_Oc_stageOf ⟨by decide, by decide⟩ (Nat.le_of_ble_eq_true rfl) (m_Oc_stageOf g F σ v2 x1 (x2 - 3)) (fun v15 => ?_)
          exact aw_iretT
        refine am_W.ite (fun h16 => ?_) (fun h16 => ?_)
        · refine aw_tsIn 73 0 6 #[41, 47, 61, 73, 73, 73, 67] 41 110 67 (h1 := by rw [h16]; decide) (h2 := by rw [h16]; decide) (ho := by rw [h16]; decide) (kk := ?_)
          refine aw_aload_n 3 (kk := ?_)
          refine aw_iload_n 1 (kk := ?_)
          refine ac_PI (st := []) [.ref v2, .int x1] (ag_V 132 9 rc_Oc_blobOf wd_1055 cal_Oc_blobOf wd_1056 wd_1057) cal_Oc_blobOf ⟨by decide, by decide⟩ (Nat.le_of_ble_eq_true rfl) (m_Oc_blobOf g F σ v2 x1) (fun v17 => ?_)
          exact aw_iretT
        refine aw_tsOut 73 0 6 #[41, 47, 61, 73, 73, 73, 67] 41 116 (h := am_tsout fun z q1 q2 => ?_) (kk := ?_)
        · have hz : z = 0 ∨ z = 1 ∨ z = 2 ∨ z = 3 ∨ z = 4 ∨ z = 5 ∨ z = 6 := by omega
          rcases hz with hz | hz | hz | hz | hz | hz | hz
          · rw [hz]; exact am_neI h4 (by decide)
          · rw [hz]; exact am_neI h6 (by decide)
          · rw [hz]; exact am_neI h8 (by decide)
          · rw [hz]; exact am_neI h10 (by decide)
          · rw [hz]; exact am_neI h12 (by decide)
          · rw [hz]; exact am_neI h14 (by decide)
          · rw [hz]; exact am_neI h16 (by decide)
        · refine aw_aload_n 3 (kk := ?_)
          refine aw_iload_n 1 (kk := ?_)
          refine aw_iload_n 2 (kk := ?_)
          refine aw_iconst 3 (v := 3) (kk := ?_)
          refine aw_isub (kk := ?_)
          refine ac_PI (st := []) [.ref v2, .int x1, .int (x2 - 3)] (ag_V 135 9 rc_Oc_stageOf wd_1059 cal_Oc_stageOf wd_1060 wd_1061) cal_Oc_stageOf ⟨by decide, by decide⟩ (Nat.le_of_ble_eq_true rfl) (m_Oc_stageOf g F σ v2 x1 (x2 - 3)) (fun v18 => ?_)
          exact aw_iretT
      · refine aw_xnew 15 105 107 (hw := wd_640) (hw2 := wd_641) (hw3 := wd_22) (hx := am_xs15) (hr := Nat.le_of_ble_eq_true rfl) (kk := ?_)
        refine aw_throw (kk := ?_)
        exact at_outI
    · refine aw_xnew 13 63 65 (hw := wd_472) (hw2 := wd_473) (hw3 := wd_18) (hx := am_xs13) (hr := Nat.le_of_ble_eq_true rfl) (kk := ?_)
      refine aw_throw (kk := ?_)
      exact at_outI
def f_MM_letter_j62 (F : Nat) (x1 : Int32) (x2 : Int32) (x3 : Int32) (x4 : Nat) (t5 : Int32)  (σ : am_S) : Option ((Nat ⊕ Int32) × am_S) :=
  if x3 < 0 then
    some (.inl σ.1, am_nx σ 15)
  else
    if x3 < t5 then
      if x2 = 0 then
        (f_Oc_pathByte F σ x4 x1 x3).bind fun v7 =>
        some (.inr v7, σ)
      else
        (f_Oc_textByte F σ x4 x1 x3).bind fun v6 =>
        some (.inr v6, σ)
    else
      some (.inl σ.1, am_nx σ 15)
theorem b_MM_letter_j62 {g : am_G} {σ0 : am_S} (F : Nat) (x1 : Int32) (x2 : Int32) (x3 : Int32) (x4 : Nat) (t5 : Int32)   (σ : am_S) : am_W g mx_MM_letter σ0 62 [none, some (.int x1), some (.int x2), some (.int x3), some (.ref x4), none] [.int t5] σ (f_MM_letter_j62 F x1 x2 x3 x4 t5 σ) am_kTI := by
  unfold f_MM_letter_j62
  refine aw_istore 5 (kk := ?_)
  refine aw_iload_n 3 (kk := ?_)
  refine aw_if_lt 9 74 (kt := fun _ => ?_) (kf := fun _ => ?_)
  · refine aw_xnew 15 105 107 (hw := wd_640) (hw2 := wd_641) (hw3 := wd_22) (hx := am_xs15) (hr := Nat.le_of_ble_eq_true rfl) (kk := ?_)
    refine aw_throw (kk := ?_)
    exact at_outI
  · refine aw_iload_n 3 (kk := ?_)
    refine aw_iload 5 (kk := ?_)
    refine aw_icmp_lt 11 82 (kt := fun _ => ?_) (kf := fun _ => ?_)
    · refine aw_iload_n 2 (kk := ?_)
      refine aw_if_ne 13 96 (kt := fun _ => ?_) (kf := fun _ => ?_)
      · refine aw_aload 4 (kk := ?_)
        refine aw_iload_n 1 (kk := ?_)
        refine aw_iload_n 3 (kk := ?_)
        refine ac_PI (st := []) [.ref x4, .int x1, .int x3] (ag_V 142 9 rc_Oc_textByte wd_1077 cal_Oc_textByte wd_1078 wd_1079) cal_Oc_textByte ⟨by decide, by decide⟩ (Nat.le_of_ble_eq_true rfl) (m_Oc_textByte g F σ x4 x1 x3) (fun v6 => ?_)
        exact aw_iretT
      · refine aw_aload 4 (kk := ?_)
        refine aw_iload_n 1 (kk := ?_)
        refine aw_iload_n 3 (kk := ?_)
        refine ac_PI (st := []) [.ref x4, .int x1, .int x3] (ag_V 139 9 rc_Oc_pathByte wd_1072 cal_Oc_pathByte wd_1073 wd_1074) cal_Oc_pathByte ⟨by decide, by decide⟩ (Nat.le_of_ble_eq_true rfl) (m_Oc_pathByte g F σ x4 x1 x3) (fun v7 => ?_)
        refine aw_goto 10 103 (kk := ?_)
        exact aw_iretT
    · refine aw_xnew 15 105 107 (hw := wd_640) (hw2 := wd_641) (hw3 := wd_22) (hx := am_xs15) (hr := Nat.le_of_ble_eq_true rfl) (kk := ?_)
      refine aw_throw (kk := ?_)
      exact at_outI
def f_MM_letter (F : Nat) (σ : am_S) (x0 : Nat) (x1 : Int32) (x2 : Int32) (x3 : Int32) : Option ((Nat ⊕ Int32) × am_S) :=
  am_ck σ 0 x0 (
  if x2 < 0 then
    some (.inl σ.1, am_nx σ 13)
  else
    if x2 ≤ 1 then
      (am_gA σ 0 4 x0).bind fun v1 =>
      (f_Mg_latestOutcomes F σ v1).bind fun v2 =>
      (f_Oc_has F σ v2 x1).bind fun v3 =>
      if v3 = 0 then
        some (.inl σ.1, am_nx σ 15)
      else
        if x2 = 0 then
          (f_Oc_pathLength F σ v2 x1).bind fun v8 =>
          f_MM_letter_j62 F x1 x2 x3 v2 v8 σ
        else
          (f_Oc_textLength F σ v2 x1).bind fun v4 =>
          f_MM_letter_j62 F x1 x2 x3 v2 v4 σ
    else
      some (.inl σ.1, am_nx σ 13))
theorem rc_MM_letter {F : Nat} {σ : am_S} {x0 : Nat} {x1 : Int32} {x2 : Int32} {x3 : Int32} (h : (f_MM_letter F σ x0 x1 x2 x3).isSome = true) : ∃ fs, σ.2.2 x0 = some (.inr (0, fs)) := am_ck_some h
theorem m_MM_letter (g : am_G) (F : Nat) (σ : am_S) (x0 : Nat) (x1 : Int32) (x2 : Int32) (x3 : Int32) : am_Met g mx_MM_letter [.ref x0, .int x1, .int x2, .int x3] σ ((f_MM_letter F σ x0 x1 x2 x3).bind am_kTI) := by
  refine am_Met.of (lv := [some (.ref x0), some (.int x1), some (.int x2), some (.int x3), none, none]) (am_cc rfl (am_cc rfl (am_cc rfl (am_cc rfl am_c0)))) (Nat.le_of_ble_eq_true rfl) rfl (by decide) ?_
  unfold f_MM_letter
  refine am_W.ck ?_
  refine aw_iload_n 2 (kk := ?_)
  refine aw_if_lt 8 9 (kt := fun _ => ?_) (kf := fun _ => ?_)
  · refine aw_xnew 13 63 65 (hw := wd_472) (hw2 := wd_473) (hw3 := wd_18) (hx := am_xs13) (hr := Nat.le_of_ble_eq_true rfl) (kk := ?_)
    refine aw_throw (kk := ?_)
    exact at_outI
  · refine aw_iload_n 2 (kk := ?_)
    refine aw_iconst 1 (v := 1) (kk := ?_)
    refine aw_icmp_le 11 17 (kt := fun _ => ?_) (kf := fun _ => ?_)
    · refine aw_aload_n 0 (kk := ?_)
      refine aw_gA 0 4 44 (hw := wd_335) (kk := fun v1 => ?_)
      refine ac_PA (st := []) [.ref v1] (ag_V 114 6 rc_Mg_latestOutcomes wd_363 cal_Mg_latestOutcomes wd_364 wd_365) cal_Mg_latestOutcomes ⟨by decide, by decide⟩ (Nat.le_of_ble_eq_true rfl) (m_Mg_latestOutcomes g F σ v1) (fun v2 => ?_)
      refine aw_astore 4 (kk := ?_)
      refine aw_aload 4 (kk := ?_)
      refine aw_iload_n 1 (kk := ?_)
      refine ac_PI (st := []) [.ref v2, .int x1] (ag_V 118 9 rc_Oc_has wd_1032 cal_Oc_has wd_1033 wd_1034) cal_Oc_has ⟨by decide, by decide⟩ (Nat.le_of_ble_eq_true rfl) (m_Oc_has g F σ v2 x1) (fun v3 => ?_)
      refine aw_if_ne 11 43 (kt := fun _ => ?_) (kf := fun _ => ?_)
      · refine aw_iload_n 2 (kk := ?_)
        refine aw_if_ne 12 56 (kt := fun _ => ?_) (kf := fun _ => ?_)
        · refine aw_aload 4 (kk := ?_)
          refine aw_iload_n 1 (kk := ?_)
          refine ac_PI (st := []) [.ref v2, .int x1] (ag_V 129 9 rc_Oc_textLength wd_1050 cal_Oc_textLength wd_1051 wd_1052) cal_Oc_textLength ⟨by decide, by decide⟩ (Nat.le_of_ble_eq_true rfl) (m_Oc_textLength g F σ v2 x1) (fun v4 => ?_)
          exact am_W.drop [false, true, true, true, true, false] (b_MM_letter_j62 F x1 x2 x3 v2 v4 σ)
        · refine aw_aload 4 (kk := ?_)
          refine aw_iload_n 1 (kk := ?_)
          refine ac_PI (st := []) [.ref v2, .int x1] (ag_V 123 9 rc_Oc_pathLength wd_1040 cal_Oc_pathLength wd_1041 wd_1042) cal_Oc_pathLength ⟨by decide, by decide⟩ (Nat.le_of_ble_eq_true rfl) (m_Oc_pathLength g F σ v2 x1) (fun v8 => ?_)
          refine aw_goto 9 62 (kk := ?_)
          exact am_W.drop [false, true, true, true, true, false] (b_MM_letter_j62 F x1 x2 x3 v2 v8 σ)
      · refine aw_xnew 15 105 107 (hw := wd_640) (hw2 := wd_641) (hw3 := wd_22) (hx := am_xs15) (hr := Nat.le_of_ble_eq_true rfl) (kk := ?_)
        refine aw_throw (kk := ?_)
        exact at_outI
    · refine aw_xnew 13 63 65 (hw := wd_472) (hw2 := wd_473) (hw3 := wd_18) (hx := am_xs13) (hr := Nat.le_of_ble_eq_true rfl) (kk := ?_)
      refine aw_throw (kk := ?_)
      exact at_outI
def f_MM_blob (F : Nat) (σ : am_S) (x0 : Nat) (x1 : Int32) (x2 : Int32) : Option ((Nat ⊕ Int32) × am_S) :=
  am_ck σ 0 x0 (
  (f_MM_isMap F σ x1).bind fun v1 =>
  if v1 = 0 then
    some (.inl σ.1, am_nx σ 13)
  else
    (am_gA σ 0 2 x0).bind fun v2 =>
    (am_lA σ 4 v2 x1).bind fun v3 =>
    (f_Pm_has F σ v3 x2).bind fun v4 =>
    if v4 = 0 then
      some (.inl σ.1, am_nx σ 15)
    else
      (am_gA σ 0 2 x0).bind fun v5 =>
      (am_lA σ 4 v5 x1).bind fun v6 =>
      (f_Pm_valueAt F σ v6 x2).bind fun v7 =>
      some (.inr v7, σ))
theorem rc_MM_blob {F : Nat} {σ : am_S} {x0 : Nat} {x1 : Int32} {x2 : Int32} (h : (f_MM_blob F σ x0 x1 x2).isSome = true) : ∃ fs, σ.2.2 x0 = some (.inr (0, fs)) := am_ck_some h
theorem m_MM_blob (g : am_G) (F : Nat) (σ : am_S) (x0 : Nat) (x1 : Int32) (x2 : Int32) : am_Met g mx_MM_blob [.ref x0, .int x1, .int x2] σ ((f_MM_blob F σ x0 x1 x2).bind am_kTI) := by
  refine am_Met.of (lv := [some (.ref x0), some (.int x1), some (.int x2)]) (am_cc rfl (am_cc rfl (am_cc rfl am_c0))) (Nat.le_of_ble_eq_true rfl) rfl (by decide) ?_
  unfold f_MM_blob
  refine am_W.ck ?_
  refine aw_iload_n 1 (kk := ?_)
  refine ac_PI (st := []) [.int x1] (ag_S 88 wd_517 cal_MM_isMap wd_518) cal_MM_isMap ⟨by decide, by decide⟩ (Nat.le_of_ble_eq_true rfl) (m_MM_isMap g F σ x1) (fun v1 => ?_)
  refine aw_if_ne 11 15 (kt := fun _ => ?_) (kf := fun _ => ?_)
  · refine aw_aload_n 0 (kk := ?_)
    refine aw_gA 0 2 25 (hw := wd_333) (kk := fun v2 => ?_)
    refine aw_iload_n 1 (kk := ?_)
    refine aw_lA 4 (kk := fun v3 => ?_)
    refine aw_iload_n 2 (kk := ?_)
    refine ac_PI (st := []) [.ref v3, .int x2] (ag_V 145 4 rc_Pm_has wd_1092 cal_Pm_has wd_1037 wd_1038) cal_Pm_has ⟨by decide, by decide⟩ (Nat.le_of_ble_eq_true rfl) (m_Pm_has g F σ v3 x2) (fun v4 => ?_)
    refine aw_if_ne 11 36 (kt := fun _ => ?_) (kf := fun _ => ?_)
    · refine aw_aload_n 0 (kk := ?_)
      refine aw_gA 0 2 25 (hw := wd_333) (kk := fun v5 => ?_)
      refine aw_iload_n 1 (kk := ?_)
      refine aw_lA 4 (kk := fun v6 => ?_)
      refine aw_iload_n 2 (kk := ?_)
      refine ac_PI (st := []) [.ref v6, .int x2] (ag_V 146 4 rc_Pm_valueAt wd_1093 cal_Pm_valueAt wd_723 wd_724) cal_Pm_valueAt ⟨by decide, by decide⟩ (Nat.le_of_ble_eq_true rfl) (m_Pm_valueAt g F σ v6 x2) (fun v7 => ?_)
      exact aw_iretT
    · refine aw_xnew 15 105 107 (hw := wd_640) (hw2 := wd_641) (hw3 := wd_22) (hx := am_xs15) (hr := Nat.le_of_ble_eq_true rfl) (kk := ?_)
      refine aw_throw (kk := ?_)
      exact at_outI
  · refine aw_xnew 13 63 65 (hw := wd_472) (hw2 := wd_473) (hw3 := wd_18) (hx := am_xs13) (hr := Nat.le_of_ble_eq_true rfl) (kk := ?_)
    refine aw_throw (kk := ?_)
    exact at_outI
def f_MM_count (F : Nat) (σ : am_S) (x0 : Nat) (x1 : Int32) : Option (Int32) :=
  am_ck σ 0 x0 (
  if x1 = 0 then
    (am_gA σ 0 2 x0).bind fun v2 =>
    (am_lA σ 4 v2 x1).bind fun v3 =>
    (f_Pm_size F σ v3).bind fun v4 =>
    some v4
  else
  if x1 = 1 then
    (am_gA σ 0 2 x0).bind fun v6 =>
    (am_lA σ 4 v6 x1).bind fun v7 =>
    (f_Pm_size F σ v7).bind fun v8 =>
    some v8
  else
  if x1 = 2 then
    (am_gA σ 0 2 x0).bind fun v10 =>
    (am_lA σ 4 v10 x1).bind fun v11 =>
    (f_Pm_size F σ v11).bind fun v12 =>
    some v12
  else
  if x1 = 3 then
    (am_gA σ 0 1 x0).bind fun v14 =>
    (f_Bl_size F σ v14).bind fun v15 =>
    some v15
  else
  if x1 = 4 then
    (am_gA σ 0 1 x0).bind fun v17 =>
    (f_Bl_totalLength F σ v17).bind fun v18 =>
    some v18
  else
  if x1 = 5 then
    (am_gA σ 0 4 x0).bind fun v20 =>
    (f_Mg_latestOutcomes F σ v20).bind fun v21 =>
    (f_Oc_size F σ v21).bind fun v22 =>
    some v22
  else
  if x1 = 6 then
    (am_gA σ 0 0 x0).bind fun v24 =>
    (f_In_inputLength F σ v24).bind fun v25 =>
    some v25
  else
  if x1 = 7 then
    (am_gA σ 0 0 x0).bind fun v27 =>
    (f_In_argumentCount F σ v27).bind fun v28 =>
    some v28
  else
  some (-1))
theorem rc_MM_count {F : Nat} {σ : am_S} {x0 : Nat} {x1 : Int32} (h : (f_MM_count F σ x0 x1).isSome = true) : ∃ fs, σ.2.2 x0 = some (.inr (0, fs)) := am_ck_some h
theorem m_MM_count (g : am_G) (F : Nat) (σ : am_S) (x0 : Nat) (x1 : Int32) : am_Met g mx_MM_count [.ref x0, .int x1] σ ((f_MM_count F σ x0 x1).bind (am_kPI σ)) := by
  refine am_Met.of (lv := [some (.ref x0), some (.int x1)]) (am_cc rfl (am_cc rfl am_c0)) (Nat.le_of_ble_eq_true rfl) rfl (by decide) ?_
  unfold f_MM_count
  refine am_W.ck ?_
  refine aw_iload_n 1 (kk := ?_)
  refine am_W.ite (fun h1 => ?_) (fun h1 => ?_)
  · refine aw_tsIn 100 0 7 #[47, 47, 47, 57, 65, 73, 84, 92] 47 48 47 (h1 := by rw [h1]; decide) (h2 := by rw [h1]; decide) (ho := by rw [h1]; decide) (kk := ?_)
    refine aw_aload_n 0 (kk := ?_)
    refine aw_gA 0 2 25 (hw := wd_333) (kk := fun v2 => ?_)
    refine aw_iload_n 1 (kk := ?_)
    refine aw_lA 4 (kk := fun v3 => ?_)
    refine ac_PI (st := []) [.ref v3] (ag_V 149 4 rc_Pm_size wd_351 cal_Pm_size wd_352 wd_353) cal_Pm_size ⟨by decide, by decide⟩ (Nat.le_of_ble_eq_true rfl) (m_Pm_size g F σ v3) (fun v4 => ?_)
    exact aw_iretP
  refine am_W.ite (fun h5 => ?_) (fun h5 => ?_)
  · refine aw_tsIn 100 0 7 #[47, 47, 47, 57, 65, 73, 84, 92] 47 48 47 (h1 := by rw [h5]; decide) (h2 := by rw [h5]; decide) (ho := by rw [h5]; decide) (kk := ?_)
    refine aw_aload_n 0 (kk := ?_)
    refine aw_gA 0 2 25 (hw := wd_333) (kk := fun v6 => ?_)
    refine aw_iload_n 1 (kk := ?_)
    refine aw_lA 4 (kk := fun v7 => ?_)
    refine ac_PI (st := []) [.ref v7] (ag_V 149 4 rc_Pm_size wd_351 cal_Pm_size wd_352 wd_353) cal_Pm_size ⟨by decide, by decide⟩ (Nat.le_of_ble_eq_true rfl) (m_Pm_size g F σ v7) (fun v8 => ?_)
    exact aw_iretP
  refine am_W.ite (fun h9 => ?_) (fun h9 => ?_)
  · refine aw_tsIn 100 0 7 #[47, 47, 47, 57, 65, 73, 84, 92] 47 48 47 (h1 := by rw [h9]; decide) (h2 := by rw [h9]; decide) (ho := by rw [h9]; decide) (kk := ?_)
    refine aw_aload_n 0 (kk := ?_)
    refine aw_gA 0 2 25 (hw := wd_333) (kk := fun v10 => ?_)
    refine aw_iload_n 1 (kk := ?_)
    refine aw_lA 4 (kk := fun v11 => ?_)
    refine ac_PI (st := []) [.ref v11] (ag_V 149 4 rc_Pm_size wd_351 cal_Pm_size wd_352 wd_353) cal_Pm_size ⟨by decide, by decide⟩ (Nat.le_of_ble_eq_true rfl) (m_Pm_size g F σ v11) (fun v12 => ?_)
    exact aw_iretP
  refine am_W.ite (fun h13 => ?_) (fun h13 => ?_)
  · refine aw_tsIn 100 0 7 #[47, 47, 47, 57, 65, 73, 84, 92] 47 58 57 (h1 := by rw [h13]; decide) (h2 := by rw [h13]; decide) (ho := by rw [h13]; decide) (kk := ?_)
    refine aw_aload_n 0 (kk := ?_)
    refine aw_gA 0 1 19 (hw := wd_332) (kk := fun v14 => ?_)
    refine ac_PI (st := []) [.ref v14] (ag_V 152 2 rc_Bl_size wd_355 cal_Bl_size wd_356 wd_357) cal_Bl_size ⟨by decide, by decide⟩ (Nat.le_of_ble_eq_true rfl) (m_Bl_size g F σ v14) (fun v15 => ?_)
    exact aw_iretP
  refine am_W.ite (fun h16 => ?_) (fun h16 => ?_)
  · refine aw_tsIn 100 0 7 #[47, 47, 47, 57, 65, 73, 84, 92] 47 66 65 (h1 := by rw [h16]; decide) (h2 := by rw [h16]; decide) (ho := by rw [h16]; decide) (kk := ?_)
    refine aw_aload_n 0 (kk := ?_)
    refine aw_gA 0 1 19 (hw := wd_332) (kk := fun v17 => ?_)
    refine ac_PI (st := []) [.ref v17] (ag_V 153 2 rc_Bl_totalLength wd_359 cal_Bl_totalLength wd_360 wd_361) cal_Bl_totalLength ⟨by decide, by decide⟩ (Nat.le_of_ble_eq_true rfl) (m_Bl_totalLength g F σ v17) (fun v18 => ?_)
    exact aw_iretP
  refine am_W.ite (fun h19 => ?_) (fun h19 => ?_)
  · refine aw_tsIn 100 0 7 #[47, 47, 47, 57, 65, 73, 84, 92] 47 74 73 (h1 := by rw [h19]; decide) (h2 := by rw [h19]; decide) (ho := by rw [h19]; decide) (kk := ?_)
    refine aw_aload_n 0 (kk := ?_)
    refine aw_gA 0 4 44 (hw := wd_335) (kk := fun v20 => ?_)
    refine ac_PA (st := []) [.ref v20] (ag_V 114 6 rc_Mg_latestOutcomes wd_363 cal_Mg_latestOutcomes wd_364 wd_365) cal_Mg_latestOutcomes ⟨by decide, by decide⟩ (Nat.le_of_ble_eq_true rfl) (m_Mg_latestOutcomes g F σ v20) (fun v21 => ?_)
    refine ac_PI (st := []) [.ref v21] (ag_V 156 9 rc_Oc_size wd_367 cal_Oc_size wd_368 wd_369) cal_Oc_size ⟨by decide, by decide⟩ (Nat.le_of_ble_eq_true rfl) (m_Oc_size g F σ v21) (fun v22 => ?_)
    exact aw_iretP
  refine am_W.ite (fun h23 => ?_) (fun h23 => ?_)
  · refine aw_tsIn 100 0 7 #[47, 47, 47, 57, 65, 73, 84, 92] 47 85 84 (h1 := by rw [h23]; decide) (h2 := by rw [h23]; decide) (ho := by rw [h23]; decide) (kk := ?_)
    refine aw_aload_n 0 (kk := ?_)
    refine aw_gA 0 0 10 (hw := wd_331) (kk := fun v24 => ?_)
    refine ac_PI (st := []) [.ref v24] (ag_V 59 1 rc_In_inputLength wd_372 cal_In_inputLength wd_373 wd_374) cal_In_inputLength ⟨by decide, by decide⟩ (Nat.le_of_ble_eq_true rfl) (m_In_inputLength g F σ v24) (fun v25 => ?_)
    exact aw_iretP
  refine am_W.ite (fun h26 => ?_) (fun h26 => ?_)
  · refine aw_tsIn 100 0 7 #[47, 47, 47, 57, 65, 73, 84, 92] 47 93 92 (h1 := by rw [h26]; decide) (h2 := by rw [h26]; decide) (ho := by rw [h26]; decide) (kk := ?_)
    refine aw_aload_n 0 (kk := ?_)
    refine aw_gA 0 0 10 (hw := wd_331) (kk := fun v27 => ?_)
    refine ac_PI (st := []) [.ref v27] (ag_V 72 1 rc_In_argumentCount wd_380 cal_In_argumentCount wd_381 wd_382) cal_In_argumentCount ⟨by decide, by decide⟩ (Nat.le_of_ble_eq_true rfl) (m_In_argumentCount g F σ v27) (fun v28 => ?_)
    exact aw_iretP
  refine aw_tsOut 100 0 7 #[47, 47, 47, 57, 65, 73, 84, 92] 47 101 (h := am_tsout fun z q1 q2 => ?_) (kk := ?_)
  · have hz : z = 0 ∨ z = 1 ∨ z = 2 ∨ z = 3 ∨ z = 4 ∨ z = 5 ∨ z = 6 ∨ z = 7 := by omega
    rcases hz with hz | hz | hz | hz | hz | hz | hz | hz
    · rw [hz]; exact am_neI h1 (by decide)
    · rw [hz]; exact am_neI h5 (by decide)
    · rw [hz]; exact am_neI h9 (by decide)
    · rw [hz]; exact am_neI h13 (by decide)
    · rw [hz]; exact am_neI h16 (by decide)
    · rw [hz]; exact am_neI h19 (by decide)
    · rw [hz]; exact am_neI h23 (by decide)
    · rw [hz]; exact am_neI h26 (by decide)
  · refine aw_iconst (-1) (v := (-1)) (kk := ?_)
    exact aw_iretP
