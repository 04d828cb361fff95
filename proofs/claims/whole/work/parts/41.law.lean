/-! ===== printed by wip/gen ===== -/
def f_Lw_law_j237 (F : Nat) (x4 : Int32) (k23 : Int32 → am_S → Option (Int32 × am_S)) (σ : am_S) : Option (Int32 × am_S) :=
  k23 (x4 + 6) σ
theorem b_Lw_law_j237 {g : am_G} {σ0 : am_S} (F : Nat) (x0 : Nat) (x1 : Nat) (x2 : Nat) (x3 : Nat) (x4 : Int32) (k23 : Int32 → am_S → Option (Int32 × am_S)) (h23 : ∀ (y4 : Int32)  (τ : am_S), am_W g mx_Lw_law σ0 23 [some (.ref x0), some (.ref x1), some (.ref x2), some (.ref x3), some (.int y4), none, none] [] τ (k23 y4 τ) am_kI) (σ : am_S) : am_W g mx_Lw_law σ0 237 [some (.ref x0), some (.ref x1), some (.ref x2), some (.ref x3), some (.int x4), none, none] [] σ (f_Lw_law_j237 F x4 k23 σ) am_kI := by
  unfold f_Lw_law_j237
  refine aw_goto 520 757 (kk := ?_)
  refine aw_iinc 4 6 (v := 6) (kk := ?_)
  refine aw_goto (-737) 23 (kk := ?_)
  exact am_W.drop [true, true, true, true, true, false, false] (h23 (x4 + 6) σ)
def f_Lw_law_j293 (F : Nat) (x4 : Int32) (k23 : Int32 → am_S → Option (Int32 × am_S)) (σ : am_S) : Option (Int32 × am_S) :=
  k23 (x4 + 6) σ
theorem b_Lw_law_j293 {g : am_G} {σ0 : am_S} (F : Nat) (x0 : Nat) (x1 : Nat) (x2 : Nat) (x3 : Nat) (x4 : Int32) (k23 : Int32 → am_S → Option (Int32 × am_S)) (h23 : ∀ (y4 : Int32)  (τ : am_S), am_W g mx_Lw_law σ0 23 [some (.ref x0), some (.ref x1), some (.ref x2), some (.ref x3), some (.int y4), none, none] [] τ (k23 y4 τ) am_kI) (σ : am_S) : am_W g mx_Lw_law σ0 293 [some (.ref x0), some (.ref x1), some (.ref x2), some (.ref x3), some (.int x4), none, none] [] σ (f_Lw_law_j293 F x4 k23 σ) am_kI := by
  unfold f_Lw_law_j293
  refine aw_goto 464 757 (kk := ?_)
  refine aw_iinc 4 6 (v := 6) (kk := ?_)
  refine aw_goto (-737) 23 (kk := ?_)
  exact am_W.drop [true, true, true, true, true, false, false] (h23 (x4 + 6) σ)
def f_Lw_law_j421 (F : Nat) (x4 : Int32) (k23 : Int32 → am_S → Option (Int32 × am_S)) (σ : am_S) : Option (Int32 × am_S) :=
  k23 (x4 + 6) σ
theorem b_Lw_law_j421 {g : am_G} {σ0 : am_S} (F : Nat) (x0 : Nat) (x1 : Nat) (x2 : Nat) (x3 : Nat) (x4 : Int32) (k23 : Int32 → am_S → Option (Int32 × am_S)) (h23 : ∀ (y4 : Int32)  (τ : am_S), am_W g mx_Lw_law σ0 23 [some (.ref x0), some (.ref x1), some (.ref x2), some (.ref x3), some (.int y4), none, none] [] τ (k23 y4 τ) am_kI) (σ : am_S) : am_W g mx_Lw_law σ0 421 [some (.ref x0), some (.ref x1), some (.ref x2), some (.ref x3), some (.int x4), none, none] [] σ (f_Lw_law_j421 F x4 k23 σ) am_kI := by
  unfold f_Lw_law_j421
  refine aw_goto 336 757 (kk := ?_)
  refine aw_iinc 4 6 (v := 6) (kk := ?_)
  refine aw_goto (-737) 23 (kk := ?_)
  exact am_W.drop [true, true, true, true, true, false, false] (h23 (x4 + 6) σ)
def f_Lw_law_j513 (F : Nat) (x4 : Int32) (k23 : Int32 → am_S → Option (Int32 × am_S)) (σ : am_S) : Option (Int32 × am_S) :=
  k23 (x4 + 6) σ
theorem b_Lw_law_j513 {g : am_G} {σ0 : am_S} (F : Nat) (x0 : Nat) (x1 : Nat) (x2 : Nat) (x3 : Nat) (x4 : Int32) (k23 : Int32 → am_S → Option (Int32 × am_S)) (h23 : ∀ (y4 : Int32)  (τ : am_S), am_W g mx_Lw_law σ0 23 [some (.ref x0), some (.ref x1), some (.ref x2), some (.ref x3), some (.int y4), none, none] [] τ (k23 y4 τ) am_kI) (σ : am_S) : am_W g mx_Lw_law σ0 513 [some (.ref x0), some (.ref x1), some (.ref x2), some (.ref x3), some (.int x4), none, none] [] σ (f_Lw_law_j513 F x4 k23 σ) am_kI := by
  unfold f_Lw_law_j513
  refine aw_goto 244 757 (kk := ?_)
  refine aw_iinc 4 6 (v := 6) (kk := ?_)
  refine aw_goto (-737) 23 (kk := ?_)
  exact am_W.drop [true, true, true, true, true, false, false] (h23 (x4 + 6) σ)
def f_Lw_law_j581 (F : Nat) (x4 : Int32) (k23 : Int32 → am_S → Option (Int32 × am_S)) (σ : am_S) : Option (Int32 × am_S) :=
  k23 (x4 + 6) σ
theorem b_Lw_law_j581 {g : am_G} {σ0 : am_S} (F : Nat) (x0 : Nat) (x1 : Nat) (x2 : Nat) (x3 : Nat) (x4 : Int32) (k23 : Int32 → am_S → Option (Int32 × am_S)) (h23 : ∀ (y4 : Int32)  (τ : am_S), am_W g mx_Lw_law σ0 23 [some (.ref x0), some (.ref x1), some (.ref x2), some (.ref x3), some (.int y4), none, none] [] τ (k23 y4 τ) am_kI) (σ : am_S) : am_W g mx_Lw_law σ0 581 [some (.ref x0), some (.ref x1), some (.ref x2), some (.ref x3), some (.int x4), none, none] [] σ (f_Lw_law_j581 F x4 k23 σ) am_kI := by
  unfold f_Lw_law_j581
  refine aw_goto 176 757 (kk := ?_)
  refine aw_iinc 4 6 (v := 6) (kk := ?_)
  refine aw_goto (-737) 23 (kk := ?_)
  exact am_W.drop [true, true, true, true, true, false, false] (h23 (x4 + 6) σ)
def f_Lw_law_j661 (F : Nat) (x4 : Int32) (k23 : Int32 → am_S → Option (Int32 × am_S)) (σ : am_S) : Option (Int32 × am_S) :=
  k23 (x4 + 6) σ
theorem b_Lw_law_j661 {g : am_G} {σ0 : am_S} (F : Nat) (x0 : Nat) (x1 : Nat) (x2 : Nat) (x3 : Nat) (x4 : Int32) (k23 : Int32 → am_S → Option (Int32 × am_S)) (h23 : ∀ (y4 : Int32)  (τ : am_S), am_W g mx_Lw_law σ0 23 [some (.ref x0), some (.ref x1), some (.ref x2), some (.ref x3), some (.int y4), none, none] [] τ (k23 y4 τ) am_kI) (σ : am_S) : am_W g mx_Lw_law σ0 661 [some (.ref x0), some (.ref x1), some (.ref x2), some (.ref x3), some (.int x4), none, none] [] σ (f_Lw_law_j661 F x4 k23 σ) am_kI := by
  unfold f_Lw_law_j661
  refine aw_goto 96 757 (kk := ?_)
  refine aw_iinc 4 6 (v := 6) (kk := ?_)
  refine aw_goto (-737) 23 (kk := ?_)
  exact am_W.drop [true, true, true, true, true, false, false] (h23 (x4 + 6) σ)
def f_Lw_law_j729 (F : Nat) (x4 : Int32) (k23 : Int32 → am_S → Option (Int32 × am_S)) (σ : am_S) : Option (Int32 × am_S) :=
  k23 (x4 + 6) σ
theorem b_Lw_law_j729 {g : am_G} {σ0 : am_S} (F : Nat) (x0 : Nat) (x1 : Nat) (x2 : Nat) (x3 : Nat) (x4 : Int32) (k23 : Int32 → am_S → Option (Int32 × am_S)) (h23 : ∀ (y4 : Int32)  (τ : am_S), am_W g mx_Lw_law σ0 23 [some (.ref x0), some (.ref x1), some (.ref x2), some (.ref x3), some (.int y4), none, none] [] τ (k23 y4 τ) am_kI) (σ : am_S) : am_W g mx_Lw_law σ0 729 [some (.ref x0), some (.ref x1), some (.ref x2), some (.ref x3), some (.int x4), none, none] [] σ (f_Lw_law_j729 F x4 k23 σ) am_kI := by
  unfold f_Lw_law_j729
  refine aw_goto 28 757 (kk := ?_)
  refine aw_iinc 4 6 (v := 6) (kk := ?_)
  refine aw_goto (-737) 23 (kk := ?_)
  exact am_W.drop [true, true, true, true, true, false, false] (h23 (x4 + 6) σ)
def f_Lw_law_l23 (F : Nat) (x0 : Nat) (x1 : Nat) (x2 : Nat) (x3 : Nat)  : Nat → Int32 → am_S → Option (Int32 × am_S)
  | 0, _, _ => none
  | n + 1, x4, σ =>
    (am_len σ x0).bind fun v5 =>
    if (v5 - 6) < x4 then
      some (1, σ)
    else
      (am_lI σ .int x0 x4).bind fun v6 =>
      if (v6 &&& 15) = 0 then
        (am_lI σ .int x0 (x4 + 1)).bind fun v8 =>
        (am_lI σ .int x0 (x4 + 2)).bind fun v9 =>
        (am_lI σ .int x0 (x4 + 3)).bind fun v10 =>
        (am_lI σ .int x0 (x4 + 4)).bind fun v11 =>
        (am_lI σ .int x0 (x4 + 5)).bind fun v12 =>
        am_b2 (f_Lw_feed F σ x1 v8 v9 v10 v11 v12) fun v13 σ14 =>
        (am_lI σ14 .int x0 (x4 + 1)).bind fun v15 =>
        (am_lI σ14 .int x0 (x4 + 2)).bind fun v16 =>
        (am_lI σ14 .int x0 (x4 + 3)).bind fun v17 =>
        (am_lI σ14 .int x0 (x4 + 4)).bind fun v18 =>
        (am_lI σ14 .int x0 (x4 + 5)).bind fun v19 =>
        (f_Md_feed F σ14 x2 v15 v16 v17 v18 v19).bind fun σ20 =>
        (f_Md_thrown F σ20 x2).bind fun v21 =>
        if v21 = v13 then
          f_Lw_law_l23 F x0 x1 x2 x3 n (x4 + 6) σ20
        else
          some (0, σ20)
      else
      if (v6 &&& 15) = 1 then
        (am_lI σ .int x0 (x4 + 1)).bind fun v23 =>
        am_b2 (f_Lw_end F σ x1 v23 x3) fun v24 σ25 =>
        (am_lI σ25 .int x0 (x4 + 1)).bind fun v26 =>
        am_b2 (f_Md_end F σ25 x2 v26) fun v27 σ28 =>
        (f_Md_thrown F σ28 x2).bind fun v29 =>
        if v29 = v24 then
          if v24 = 0 then
            (am_lL σ28 x3 0).bind fun v30 =>
            if (lg_cmp v30 ((v27).toInt64)) = 0 then
              f_Lw_law_j237 F x4 (fun y4 τ => f_Lw_law_l23 F x0 x1 x2 x3 n y4 τ) σ28
            else
              some (0, σ28)
          else
            f_Lw_law_j237 F x4 (fun y4 τ => f_Lw_law_l23 F x0 x1 x2 x3 n y4 τ) σ28
        else
          some (0, σ28)
      else
      if (v6 &&& 15) = 2 then
        (am_lI σ .int x0 (x4 + 1)).bind fun v32 =>
        am_b2 (f_Lw_put F σ x1 v32 x3) fun v33 σ34 =>
        (am_lI σ34 .int x0 (x4 + 1)).bind fun v35 =>
        am_b2 (f_Md_put F σ34 x2 v35) fun v36 σ37 =>
        (f_Md_thrown F σ37 x2).bind fun v38 =>
        if v38 = v33 then
          if v33 = 0 then
            (am_lL σ37 x3 0).bind fun v39 =>
            if (lg_cmp v39 ((v36).toInt64)) = 0 then
              f_Lw_law_j293 F x4 (fun y4 τ => f_Lw_law_l23 F x0 x1 x2 x3 n y4 τ) σ37
            else
              some (0, σ37)
          else
            f_Lw_law_j293 F x4 (fun y4 τ => f_Lw_law_l23 F x0 x1 x2 x3 n y4 τ) σ37
        else
          some (0, σ37)
      else
      if (v6 &&& 15) = 3 then
        (am_lI σ .int x0 (x4 + 1)).bind fun v41 =>
        am_b2 (f_Lw_drop F σ x1 v41) fun v42 σ43 =>
        (am_lI σ43 .int x0 (x4 + 1)).bind fun v44 =>
        (f_Md_drop F σ43 x2 v44).bind fun σ45 =>
        (f_Md_thrown F σ45 x2).bind fun v46 =>
        if v46 = v42 then
          f_Lw_law_l23 F x0 x1 x2 x3 n (x4 + 6) σ45
        else
          some (0, σ45)
      else
      if (v6 &&& 15) = 4 then
        (am_lI σ .int x0 (x4 + 1)).bind fun v48 =>
        (am_lI σ .int x0 (x4 + 2)).bind fun v49 =>
        am_b2 (f_Lw_copy F σ x1 v48 v49) fun v50 σ51 =>
        (am_lI σ51 .int x0 (x4 + 1)).bind fun v52 =>
        (am_lI σ51 .int x0 (x4 + 2)).bind fun v53 =>
        (f_Md_copy F σ51 x2 v52 v53).bind fun σ54 =>
        (f_Md_thrown F σ54 x2).bind fun v55 =>
        if v55 = v50 then
          f_Lw_law_l23 F x0 x1 x2 x3 n (x4 + 6) σ54
        else
          some (0, σ54)
      else
      if (v6 &&& 15) = 5 then
        am_b2 (f_Lw_merge F σ x1 x3) fun v57 σ58 =>
        am_b2 (f_Md_merge F σ58 x2) fun v59 σ60 =>
        (f_Md_thrown F σ60 x2).bind fun v61 =>
        if v61 = v57 then
          if v57 = 0 then
            (am_lL σ60 x3 0).bind fun v62 =>
            if (lg_cmp v62 ((v59).toInt64)) = 0 then
              f_Lw_law_j421 F x4 (fun y4 τ => f_Lw_law_l23 F x0 x1 x2 x3 n y4 τ) σ60
            else
              some (0, σ60)
          else
            f_Lw_law_j421 F x4 (fun y4 τ => f_Lw_law_l23 F x0 x1 x2 x3 n y4 τ) σ60
        else
          some (0, σ60)
      else
      if (v6 &&& 15) = 6 then
        (am_lI σ .int x0 (x4 + 1)).bind fun v64 =>
        (am_lI σ .int x0 (x4 + 2)).bind fun v65 =>
        (am_lI σ .int x0 (x4 + 3)).bind fun v66 =>
        (am_lI σ .int x0 (x4 + 4)).bind fun v67 =>
        am_b2 (f_Lw_renamed F σ x1 v64 v65 v66 v67 x3) fun v68 σ69 =>
        (am_lI σ69 .int x0 (x4 + 1)).bind fun v70 =>
        (am_lI σ69 .int x0 (x4 + 2)).bind fun v71 =>
        (am_lI σ69 .int x0 (x4 + 3)).bind fun v72 =>
        (am_lI σ69 .int x0 (x4 + 4)).bind fun v73 =>
        am_b2 (f_Md_renamed F σ69 x2 v70 v71 v72 v73) fun v74 σ75 =>
        (f_Md_thrown F σ75 x2).bind fun v76 =>
        if v76 = v68 then
          if v68 = 0 then
            (am_lL σ75 x3 0).bind fun v77 =>
            if (lg_cmp v77 ((v74).toInt64)) = 0 then
              f_Lw_law_j513 F x4 (fun y4 τ => f_Lw_law_l23 F x0 x1 x2 x3 n y4 τ) σ75
            else
              some (0, σ75)
          else
            f_Lw_law_j513 F x4 (fun y4 τ => f_Lw_law_l23 F x0 x1 x2 x3 n y4 τ) σ75
        else
          some (0, σ75)
      else
      if (v6 &&& 15) = 7 then
        (am_lI σ .int x0 (x4 + 1)).bind fun v79 =>
        (am_lI σ .int x0 (x4 + 2)).bind fun v80 =>
        am_b2 (f_Lw_outcome F σ x1 v79 v80 x3) fun v81 σ82 =>
        (am_lI σ82 .int x0 (x4 + 1)).bind fun v83 =>
        (am_lI σ82 .int x0 (x4 + 2)).bind fun v84 =>
        am_b2 (f_Md_outcomeb F σ82 x2 v83 v84) fun v85 σ86 =>
        (f_Md_thrown F σ86 x2).bind fun v87 =>
        if v87 = v81 then
          if v81 = 0 then
            (am_lL σ86 x3 0).bind fun v88 =>
            if (lg_cmp v88 ((v85).toInt64)) = 0 then
              f_Lw_law_j581 F x4 (fun y4 τ => f_Lw_law_l23 F x0 x1 x2 x3 n y4 τ) σ86
            else
              some (0, σ86)
          else
            f_Lw_law_j581 F x4 (fun y4 τ => f_Lw_law_l23 F x0 x1 x2 x3 n y4 τ) σ86
        else
          some (0, σ86)
      else
      if (v6 &&& 15) = 8 then
        (am_lI σ .int x0 (x4 + 1)).bind fun v90 =>
        (am_lI σ .int x0 (x4 + 2)).bind fun v91 =>
        (am_lI σ .int x0 (x4 + 3)).bind fun v92 =>
        am_b2 (f_Lw_letter F σ x1 v90 v91 v92 x3) fun v93 σ94 =>
        (am_lI σ94 .int x0 (x4 + 1)).bind fun v95 =>
        (am_lI σ94 .int x0 (x4 + 2)).bind fun v96 =>
        (am_lI σ94 .int x0 (x4 + 3)).bind fun v97 =>
        am_b2 (f_Md_letter F σ94 x2 v95 v96 v97) fun v98 σ99 =>
        (f_Md_thrown F σ99 x2).bind fun v100 =>
        if v100 = v93 then
          if v93 = 0 then
            (am_lL σ99 x3 0).bind fun v101 =>
            if (lg_cmp v101 ((v98).toInt64)) = 0 then
              f_Lw_law_j661 F x4 (fun y4 τ => f_Lw_law_l23 F x0 x1 x2 x3 n y4 τ) σ99
            else
              some (0, σ99)
          else
            f_Lw_law_j661 F x4 (fun y4 τ => f_Lw_law_l23 F x0 x1 x2 x3 n y4 τ) σ99
        else
          some (0, σ99)
      else
      if (v6 &&& 15) = 9 then
        (am_lI σ .int x0 (x4 + 1)).bind fun v103 =>
        (am_lI σ .int x0 (x4 + 2)).bind fun v104 =>
        am_b2 (f_Lw_blob F σ x1 v103 v104 x3) fun v105 σ106 =>
        (am_lI σ106 .int x0 (x4 + 1)).bind fun v107 =>
        (am_lI σ106 .int x0 (x4 + 2)).bind fun v108 =>
        am_b2 (f_Md_blob F σ106 x2 v107 v108) fun v109 σ110 =>
        (f_Md_thrown F σ110 x2).bind fun v111 =>
        if v111 = v105 then
          if v105 = 0 then
            (am_lL σ110 x3 0).bind fun v112 =>
            if (lg_cmp v112 ((v109).toInt64)) = 0 then
              f_Lw_law_j729 F x4 (fun y4 τ => f_Lw_law_l23 F x0 x1 x2 x3 n y4 τ) σ110
            else
              some (0, σ110)
          else
            f_Lw_law_j729 F x4 (fun y4 τ => f_Lw_law_l23 F x0 x1 x2 x3 n y4 τ) σ110
        else
          some (0, σ110)
      else
      if (v6 &&& 15) = 10 then
        (am_lI σ .int x0 (x4 + 1)).bind fun v114 =>
        (f_MM_count F σ x1 v114).bind fun v115 =>
        (am_lI σ .int x0 (x4 + 1)).bind fun v116 =>
        am_b2 (f_Md_count F σ x2 v116) fun v117 σ118 =>
        if v115 = v117 then
          f_Lw_law_l23 F x0 x1 x2 x3 n (x4 + 6) σ118
        else
          some (0, σ118)
      else
      f_Lw_law_l23 F x0 x1 x2 x3 n (x4 + 6) σ
theorem b_Lw_law_l23 {g : am_G} {σ0 : am_S} (F : Nat) (x0 : Nat) (x1 : Nat) (x2 : Nat) (x3 : Nat)   : ∀ (n : Nat) (x4 : Int32) (σ : am_S), am_W g mx_Lw_law σ0 23 [some (.ref x0), some (.ref x1), some (.ref x2), some (.ref x3), some (.int x4), none, none] [] σ (f_Lw_law_l23 F x0 x1 x2 x3 n x4 σ) am_kI := by
  intro n
  induction n with
  | zero =>
    intro x4 σ
    rw [f_Lw_law_l23]
    exact am_W.none
  | succ n ih =>
    intro x4 σ
    rw [f_Lw_law_l23]
    refine aw_iload 4 (kk := ?_)
    refine aw_aload_n 0 (kk := ?_)
    refine aw_len (kk := fun v5 => ?_)
    refine aw_bipush 6 (v := 6) (kk := ?_)
    refine aw_isub (kk := ?_)
    refine aw_icmp_gt 733 763 (kt := fun _ => ?_) (kf := fun _ => ?_)
    · refine aw_iconst 1 (v := 1) (kk := ?_)
      exact aw_zretL (by decide)
    · refine aw_aload_n 0 (kk := ?_)
      refine aw_iload 4 (kk := ?_)
      refine aw_lI (kk := fun v6 => ?_)
      refine aw_bipush 15 (v := 15) (kk := ?_)
      refine aw_iand (kk := ?_)
      refine am_W.ite (fun h7 => ?_) (fun h7 => ?_)
      · refine aw_tsIn 717 0 10 #[60, 144, 200, 256, 292, 340, 384, 476, 544, 624, 692] 60 100 60 (h1 := by rw [h7]; decide) (h2 := by rw [h7]; decide) (ho := by rw [h7]; decide) (kk := ?_)
        refine aw_aload_n 1 (kk := ?_)
        refine aw_aload_n 0 (kk := ?_)
        refine aw_iload 4 (kk := ?_)
        refine aw_iconst 1 (v := 1) (kk := ?_)
        refine aw_iadd (kk := ?_)
        refine aw_lI (kk := fun v8 => ?_)
        refine aw_aload_n 0 (kk := ?_)
        refine aw_iload 4 (kk := ?_)
        refine aw_iconst 2 (v := 2) (kk := ?_)
        refine aw_iadd (kk := ?_)
        refine aw_lI (kk := fun v9 => ?_)
        refine aw_aload_n 0 (kk := ?_)
        refine aw_iload 4 (kk := ?_)
        refine aw_iconst 3 (v := 3) (kk := ?_)
        refine aw_iadd (kk := ?_)
        refine aw_lI (kk := fun v10 => ?_)
        refine aw_aload_n 0 (kk := ?_)
        refine aw_iload 4 (kk := ?_)
        refine aw_iconst 4 (v := 4) (kk := ?_)
        refine aw_iadd (kk := ?_)
        refine aw_lI (kk := fun v11 => ?_)
        refine aw_aload_n 0 (kk := ?_)
        refine aw_iload 4 (kk := ?_)
        refine aw_iconst 5 (v := 5) (kk := ?_)
        refine aw_iadd (kk := ?_)
        refine aw_lI (kk := fun v12 => ?_)
        refine ac_I (st := []) [.ref x1, .int v8, .int v9, .int v10, .int v11, .int v12] (ag_S 57 wd_384 cal_Lw_feed wd_385) cal_Lw_feed ⟨by decide, by decide⟩ (Nat.le_of_ble_eq_true rfl) (m_Lw_feed g F σ x1 v8 v9 v10 v11 v12) (fun v13 σ14 => ?_)
        refine aw_istore 5 (kk := ?_)
        refine aw_aload_n 2 (kk := ?_)
        refine aw_aload_n 0 (kk := ?_)
        refine aw_iload 4 (kk := ?_)
        refine aw_iconst 1 (v := 1) (kk := ?_)
        refine aw_iadd (kk := ?_)
        refine aw_lI (kk := fun v15 => ?_)
        refine aw_aload_n 0 (kk := ?_)
        refine aw_iload 4 (kk := ?_)
        refine aw_iconst 2 (v := 2) (kk := ?_)
        refine aw_iadd (kk := ?_)
        refine aw_lI (kk := fun v16 => ?_)
        refine aw_aload_n 0 (kk := ?_)
        refine aw_iload 4 (kk := ?_)
        refine aw_iconst 3 (v := 3) (kk := ?_)
        refine aw_iadd (kk := ?_)
        refine aw_lI (kk := fun v17 => ?_)
        refine aw_aload_n 0 (kk := ?_)
        refine aw_iload 4 (kk := ?_)
        refine aw_iconst 4 (v := 4) (kk := ?_)
        refine aw_iadd (kk := ?_)
        refine aw_lI (kk := fun v18 => ?_)
        refine aw_aload_n 0 (kk := ?_)
        refine aw_iload 4 (kk := ?_)
        refine aw_iconst 5 (v := 5) (kk := ?_)
        refine aw_iadd (kk := ?_)
        refine aw_lI (kk := fun v19 => ?_)
        refine ac_V (st := []) [.ref x2, .int v15, .int v16, .int v17, .int v18, .int v19] (ag_V 62 10 rc_Md_feed wd_1287 cal_Md_feed wd_1288 wd_1289) cal_Md_feed ⟨by decide, by decide⟩ (Nat.le_of_ble_eq_true rfl) (m_Md_feed g F σ14 x2 v15 v16 v17 v18 v19) (fun σ20 => ?_)
        refine aw_aload_n 2 (kk := ?_)
        refine ac_PI (st := []) [.ref x2] (ag_V 63 10 rc_Md_thrown wd_1283 cal_Md_thrown wd_1284 wd_1285) cal_Md_thrown ⟨by decide, by decide⟩ (Nat.le_of_ble_eq_true rfl) (m_Md_thrown g F σ20 x2) (fun v21 => ?_)
        refine aw_iload 5 (kk := ?_)
        refine aw_icmp_eq 5 181 (kt := fun _ => ?_) (kf := fun _ => ?_)
        · refine aw_goto 576 757 (kk := ?_)
          refine aw_iinc 4 6 (v := 6) (kk := ?_)
          refine aw_goto (-737) 23 (kk := ?_)
          exact am_W.drop [true, true, true, true, true, false, false] (ih (x4 + 6) σ20)
        · refine aw_iconst 0 (v := 0) (kk := ?_)
          exact aw_zretL (by decide)
      refine am_W.ite (fun h22 => ?_) (fun h22 => ?_)
      · refine aw_tsIn 717 0 10 #[60, 144, 200, 256, 292, 340, 384, 476, 544, 624, 692] 60 184 144 (h1 := by rw [h22]; decide) (h2 := by rw [h22]; decide) (ho := by rw [h22]; decide) (kk := ?_)
        refine aw_aload_n 1 (kk := ?_)
        refine aw_aload_n 0 (kk := ?_)
        refine aw_iload 4 (kk := ?_)
        refine aw_iconst 1 (v := 1) (kk := ?_)
        refine aw_iadd (kk := ?_)
        refine aw_lI (kk := fun v23 => ?_)
        refine aw_aload_n 3 (kk := ?_)
        refine ac_I (st := []) [.ref x1, .int v23, .ref x3] (ag_S 66 wd_464 cal_Lw_end wd_465) cal_Lw_end ⟨by decide, by decide⟩ (Nat.le_of_ble_eq_true rfl) (m_Lw_end g F σ x1 v23 x3) (fun v24 σ25 => ?_)
        refine aw_istore 5 (kk := ?_)
        refine aw_aload_n 2 (kk := ?_)
        refine aw_aload_n 0 (kk := ?_)
        refine aw_iload 4 (kk := ?_)
        refine aw_iconst 1 (v := 1) (kk := ?_)
        refine aw_iadd (kk := ?_)
        refine aw_lI (kk := fun v26 => ?_)
        refine ac_I (st := []) [.ref x2, .int v26] (ag_V 69 10 rc_Md_end wd_1303 cal_Md_end wd_1304 wd_1305) cal_Md_end ⟨by decide, by decide⟩ (Nat.le_of_ble_eq_true rfl) (m_Md_end g F σ25 x2 v26) (fun v27 σ28 => ?_)
        refine aw_istore 6 (kk := ?_)
        refine aw_aload_n 2 (kk := ?_)
        refine ac_PI (st := []) [.ref x2] (ag_V 63 10 rc_Md_thrown wd_1283 cal_Md_thrown wd_1284 wd_1285) cal_Md_thrown ⟨by decide, by decide⟩ (Nat.le_of_ble_eq_true rfl) (m_Md_thrown g F σ28 x2) (fun v29 => ?_)
        refine aw_iload 5 (kk := ?_)
        refine aw_icmp_eq 5 220 (kt := fun _ => ?_) (kf := fun _ => ?_)
        · refine aw_iload 5 (kk := ?_)
          refine aw_if_ne 15 237 (kt := fun _ => ?_) (kf := fun _ => ?_)
          · exact am_W.drop [true, true, true, true, true, false, false] (b_Lw_law_j237 F x0 x1 x2 x3 x4 (fun y4 τ => f_Lw_law_l23 F x0 x1 x2 x3 n y4 τ) (fun y4 τ => am_W.drop [true, true, true, true, true, false, false] (ih y4 τ)) σ28)
          · refine aw_aload_n 3 (kk := ?_)
            refine aw_iconst 0 (v := 0) (kk := ?_)
            refine aw_lL (kk := fun v30 => ?_)
            refine aw_iload 6 (kk := ?_)
            refine aw_i2l (kk := ?_)
            refine aw_lcmp (kk := ?_)
            refine aw_if_eq 5 237 (kt := fun _ => ?_) (kf := fun _ => ?_)
            · exact am_W.drop [true, true, true, true, true, false, false] (b_Lw_law_j237 F x0 x1 x2 x3 x4 (fun y4 τ => f_Lw_law_l23 F x0 x1 x2 x3 n y4 τ) (fun y4 τ => am_W.drop [true, true, true, true, true, false, false] (ih y4 τ)) σ28)
            · refine aw_iconst 0 (v := 0) (kk := ?_)
              exact aw_zretL (by decide)
        · refine aw_iconst 0 (v := 0) (kk := ?_)
          exact aw_zretL (by decide)
      refine am_W.ite (fun h31 => ?_) (fun h31 => ?_)
      · refine aw_tsIn 717 0 10 #[60, 144, 200, 256, 292, 340, 384, 476, 544, 624, 692] 60 240 200 (h1 := by rw [h31]; decide) (h2 := by rw [h31]; decide) (ho := by rw [h31]; decide) (kk := ?_)
        refine aw_aload_n 1 (kk := ?_)
        refine aw_aload_n 0 (kk := ?_)
        refine aw_iload 4 (kk := ?_)
        refine aw_iconst 1 (v := 1) (kk := ?_)
        refine aw_iadd (kk := ?_)
        refine aw_lI (kk := fun v32 => ?_)
        refine aw_aload_n 3 (kk := ?_)
        refine ac_I (st := []) [.ref x1, .int v32, .ref x3] (ag_S 70 wd_506 cal_Lw_put wd_507) cal_Lw_put ⟨by decide, by decide⟩ (Nat.le_of_ble_eq_true rfl) (m_Lw_put g F σ x1 v32 x3) (fun v33 σ34 => ?_)
        refine aw_istore 5 (kk := ?_)
        refine aw_aload_n 2 (kk := ?_)
        refine aw_aload_n 0 (kk := ?_)
        refine aw_iload 4 (kk := ?_)
        refine aw_iconst 1 (v := 1) (kk := ?_)
        refine aw_iadd (kk := ?_)
        refine aw_lI (kk := fun v35 => ?_)
        refine ac_I (st := []) [.ref x2, .int v35] (ag_V 72 10 rc_Md_put wd_1321 cal_Md_put wd_1322 wd_1323) cal_Md_put ⟨by decide, by decide⟩ (Nat.le_of_ble_eq_true rfl) (m_Md_put g F σ34 x2 v35) (fun v36 σ37 => ?_)
        refine aw_istore 6 (kk := ?_)
        refine aw_aload_n 2 (kk := ?_)
        refine ac_PI (st := []) [.ref x2] (ag_V 63 10 rc_Md_thrown wd_1283 cal_Md_thrown wd_1284 wd_1285) cal_Md_thrown ⟨by decide, by decide⟩ (Nat.le_of_ble_eq_true rfl) (m_Md_thrown g F σ37 x2) (fun v38 => ?_)
        refine aw_iload 5 (kk := ?_)
        refine aw_icmp_eq 5 276 (kt := fun _ => ?_) (kf := fun _ => ?_)
        · refine aw_iload 5 (kk := ?_)
          refine aw_if_ne 15 293 (kt := fun _ => ?_) (kf := fun _ => ?_)
          · exact am_W.drop [true, true, true, true, true, false, false] (b_Lw_law_j293 F x0 x1 x2 x3 x4 (fun y4 τ => f_Lw_law_l23 F x0 x1 x2 x3 n y4 τ) (fun y4 τ => am_W.drop [true, true, true, true, true, false, false] (ih y4 τ)) σ37)
          · refine aw_aload_n 3 (kk := ?_)
            refine aw_iconst 0 (v := 0) (kk := ?_)
            refine aw_lL (kk := fun v39 => ?_)
            refine aw_iload 6 (kk := ?_)
            refine aw_i2l (kk := ?_)
            refine aw_lcmp (kk := ?_)
            refine aw_if_eq 5 293 (kt := fun _ => ?_) (kf := fun _ => ?_)
            · exact am_W.drop [true, true, true, true, true, false, false] (b_Lw_law_j293 F x0 x1 x2 x3 x4 (fun y4 τ => f_Lw_law_l23 F x0 x1 x2 x3 n y4 τ) (fun y4 τ => am_W.drop [true, true, true, true, true, false, false] (ih y4 τ)) σ37)
            · refine aw_iconst 0 (v := 0) (kk := ?_)
              exact aw_zretL (by decide)
        · refine aw_iconst 0 (v := 0) (kk := ?_)
          exact aw_zretL (by decide)
      refine am_W.ite (fun h40 => ?_) (fun h40 => ?_)
      · refine aw_tsIn 717 0 10 #[60, 144, 200, 256, 292, 340, 384, 476, 544, 624, 692] 60 296 256 (h1 := by rw [h40]; decide) (h2 := by rw [h40]; decide) (ho := by rw [h40]; decide) (kk := ?_)
        refine aw_aload_n 1 (kk := ?_)
        refine aw_aload_n 0 (kk := ?_)
        refine aw_iload 4 (kk := ?_)
        refine aw_iconst 1 (v := 1) (kk := ?_)
        refine aw_iadd (kk := ?_)
        refine aw_lI (kk := fun v41 => ?_)
        refine ac_I (st := []) [.ref x1, .int v41] (ag_S 73 wd_655 cal_Lw_drop wd_656) cal_Lw_drop ⟨by decide, by decide⟩ (Nat.le_of_ble_eq_true rfl) (m_Lw_drop g F σ x1 v41) (fun v42 σ43 => ?_)
        refine aw_istore 5 (kk := ?_)
        refine aw_aload_n 2 (kk := ?_)
        refine aw_aload_n 0 (kk := ?_)
        refine aw_iload 4 (kk := ?_)
        refine aw_iconst 1 (v := 1) (kk := ?_)
        refine aw_iadd (kk := ?_)
        refine aw_lI (kk := fun v44 => ?_)
        refine ac_V (st := []) [.ref x2, .int v44] (ag_V 76 10 rc_Md_drop wd_1392 cal_Md_drop wd_1393 wd_1394) cal_Md_drop ⟨by decide, by decide⟩ (Nat.le_of_ble_eq_true rfl) (m_Md_drop g F σ43 x2 v44) (fun σ45 => ?_)
        refine aw_aload_n 2 (kk := ?_)
        refine ac_PI (st := []) [.ref x2] (ag_V 63 10 rc_Md_thrown wd_1283 cal_Md_thrown wd_1284 wd_1285) cal_Md_thrown ⟨by decide, by decide⟩ (Nat.le_of_ble_eq_true rfl) (m_Md_thrown g F σ45 x2) (fun v46 => ?_)
        refine aw_iload 5 (kk := ?_)
        refine aw_icmp_eq 5 329 (kt := fun _ => ?_) (kf := fun _ => ?_)
        · refine aw_goto 428 757 (kk := ?_)
          refine aw_iinc 4 6 (v := 6) (kk := ?_)
          refine aw_goto (-737) 23 (kk := ?_)
          exact am_W.drop [true, true, true, true, true, false, false] (ih (x4 + 6) σ45)
        · refine aw_iconst 0 (v := 0) (kk := ?_)
          exact aw_zretL (by decide)
      refine am_W.ite (fun h47 => ?_) (fun h47 => ?_)
      · refine aw_tsIn 717 0 10 #[60, 144, 200, 256, 292, 340, 384, 476, 544, 624, 692] 60 332 292 (h1 := by rw [h47]; decide) (h2 := by rw [h47]; decide) (ho := by rw [h47]; decide) (kk := ?_)
        refine aw_aload_n 1 (kk := ?_)
        refine aw_aload_n 0 (kk := ?_)
        refine aw_iload 4 (kk := ?_)
        refine aw_iconst 1 (v := 1) (kk := ?_)
        refine aw_iadd (kk := ?_)
        refine aw_lI (kk := fun v48 => ?_)
        refine aw_aload_n 0 (kk := ?_)
        refine aw_iload 4 (kk := ?_)
        refine aw_iconst 2 (v := 2) (kk := ?_)
        refine aw_iadd (kk := ?_)
        refine aw_lI (kk := fun v49 => ?_)
        refine ac_I (st := []) [.ref x1, .int v48, .int v49] (ag_S 77 wd_672 cal_Lw_copy wd_673) cal_Lw_copy ⟨by decide, by decide⟩ (Nat.le_of_ble_eq_true rfl) (m_Lw_copy g F σ x1 v48 v49) (fun v50 σ51 => ?_)
        refine aw_istore 5 (kk := ?_)
        refine aw_aload_n 2 (kk := ?_)
        refine aw_aload_n 0 (kk := ?_)
        refine aw_iload 4 (kk := ?_)
        refine aw_iconst 1 (v := 1) (kk := ?_)
        refine aw_iadd (kk := ?_)
        refine aw_lI (kk := fun v52 => ?_)
        refine aw_aload_n 0 (kk := ?_)
        refine aw_iload 4 (kk := ?_)
        refine aw_iconst 2 (v := 2) (kk := ?_)
        refine aw_iadd (kk := ?_)
        refine aw_lI (kk := fun v53 => ?_)
        refine ac_V (st := []) [.ref x2, .int v52, .int v53] (ag_V 80 10 rc_Md_copy wd_1401 cal_Md_copy wd_1402 wd_1403) cal_Md_copy ⟨by decide, by decide⟩ (Nat.le_of_ble_eq_true rfl) (m_Md_copy g F σ51 x2 v52 v53) (fun σ54 => ?_)
        refine aw_aload_n 2 (kk := ?_)
        refine ac_PI (st := []) [.ref x2] (ag_V 63 10 rc_Md_thrown wd_1283 cal_Md_thrown wd_1284 wd_1285) cal_Md_thrown ⟨by decide, by decide⟩ (Nat.le_of_ble_eq_true rfl) (m_Md_thrown g F σ54 x2) (fun v55 => ?_)
        refine aw_iload 5 (kk := ?_)
        refine aw_icmp_eq 5 377 (kt := fun _ => ?_) (kf := fun _ => ?_)
        · refine aw_goto 380 757 (kk := ?_)
          refine aw_iinc 4 6 (v := 6) (kk := ?_)
          refine aw_goto (-737) 23 (kk := ?_)
          exact am_W.drop [true, true, true, true, true, false, false] (ih (x4 + 6) σ54)
        · refine aw_iconst 0 (v := 0) (kk := ?_)
          exact aw_zretL (by decide)
      refine am_W.ite (fun h56 => ?_) (fun h56 => ?_)
      · refine aw_tsIn 717 0 10 #[60, 144, 200, 256, 292, 340, 384, 476, 544, 624, 692] 60 380 340 (h1 := by rw [h56]; decide) (h2 := by rw [h56]; decide) (ho := by rw [h56]; decide) (kk := ?_)
        refine aw_aload_n 1 (kk := ?_)
        refine aw_aload_n 3 (kk := ?_)
        refine ac_I (st := []) [.ref x1, .ref x3] (ag_S 81 wd_683 cal_Lw_merge wd_684) cal_Lw_merge ⟨by decide, by decide⟩ (Nat.le_of_ble_eq_true rfl) (m_Lw_merge g F σ x1 x3) (fun v57 σ58 => ?_)
        refine aw_istore 5 (kk := ?_)
        refine aw_aload_n 2 (kk := ?_)
        refine ac_I (st := []) [.ref x2] (ag_V 84 10 rc_Md_merge wd_1405 cal_Md_merge wd_1406 wd_1407) cal_Md_merge ⟨by decide, by decide⟩ (Nat.le_of_ble_eq_true rfl) (m_Md_merge g F σ58 x2) (fun v59 σ60 => ?_)
        refine aw_istore 6 (kk := ?_)
        refine aw_aload_n 2 (kk := ?_)
        refine ac_PI (st := []) [.ref x2] (ag_V 63 10 rc_Md_thrown wd_1283 cal_Md_thrown wd_1284 wd_1285) cal_Md_thrown ⟨by decide, by decide⟩ (Nat.le_of_ble_eq_true rfl) (m_Md_thrown g F σ60 x2) (fun v61 => ?_)
        refine aw_iload 5 (kk := ?_)
        refine aw_icmp_eq 5 404 (kt := fun _ => ?_) (kf := fun _ => ?_)
        · refine aw_iload 5 (kk := ?_)
          refine aw_if_ne 15 421 (kt := fun _ => ?_) (kf := fun _ => ?_)
          · exact am_W.drop [true, true, true, true, true, false, false] (b_Lw_law_j421 F x0 x1 x2 x3 x4 (fun y4 τ => f_Lw_law_l23 F x0 x1 x2 x3 n y4 τ) (fun y4 τ => am_W.drop [true, true, true, true, true, false, false] (ih y4 τ)) σ60)
          · refine aw_aload_n 3 (kk := ?_)
            refine aw_iconst 0 (v := 0) (kk := ?_)
            refine aw_lL (kk := fun v62 => ?_)
            refine aw_iload 6 (kk := ?_)
            refine aw_i2l (kk := ?_)
            refine aw_lcmp (kk := ?_)
            refine aw_if_eq 5 421 (kt := fun _ => ?_) (kf := fun _ => ?_)
            · exact am_W.drop [true, true, true, true, true, false, false] (b_Lw_law_j421 F x0 x1 x2 x3 x4 (fun y4 τ => f_Lw_law_l23 F x0 x1 x2 x3 n y4 τ) (fun y4 τ => am_W.drop [true, true, true, true, true, false, false] (ih y4 τ)) σ60)
            · refine aw_iconst 0 (v := 0) (kk := ?_)
              exact aw_zretL (by decide)
        · refine aw_iconst 0 (v := 0) (kk := ?_)
          exact aw_zretL (by decide)
      refine am_W.ite (fun h63 => ?_) (fun h63 => ?_)
      · refine aw_tsIn 717 0 10 #[60, 144, 200, 256, 292, 340, 384, 476, 544, 624, 692] 60 424 384 (h1 := by rw [h63]; decide) (h2 := by rw [h63]; decide) (ho := by rw [h63]; decide) (kk := ?_)
        refine aw_aload_n 1 (kk := ?_)
        refine aw_aload_n 0 (kk := ?_)
        refine aw_iload 4 (kk := ?_)
        refine aw_iconst 1 (v := 1) (kk := ?_)
        refine aw_iadd (kk := ?_)
        refine aw_lI (kk := fun v64 => ?_)
        refine aw_aload_n 0 (kk := ?_)
        refine aw_iload 4 (kk := ?_)
        refine aw_iconst 2 (v := 2) (kk := ?_)
        refine aw_iadd (kk := ?_)
        refine aw_lI (kk := fun v65 => ?_)
        refine aw_aload_n 0 (kk := ?_)
        refine aw_iload 4 (kk := ?_)
        refine aw_iconst 3 (v := 3) (kk := ?_)
        refine aw_iadd (kk := ?_)
        refine aw_lI (kk := fun v66 => ?_)
        refine aw_aload_n 0 (kk := ?_)
        refine aw_iload 4 (kk := ?_)
        refine aw_iconst 4 (v := 4) (kk := ?_)
        refine aw_iadd (kk := ?_)
        refine aw_lI (kk := fun v67 => ?_)
        refine aw_aload_n 3 (kk := ?_)
        refine ac_I (st := []) [.ref x1, .int v64, .int v65, .int v66, .int v67, .ref x3] (ag_S 85 wd_1008 cal_Lw_renamed wd_1009) cal_Lw_renamed ⟨by decide, by decide⟩ (Nat.le_of_ble_eq_true rfl) (m_Lw_renamed g F σ x1 v64 v65 v66 v67 x3) (fun v68 σ69 => ?_)
        refine aw_istore 5 (kk := ?_)
        refine aw_aload_n 2 (kk := ?_)
        refine aw_aload_n 0 (kk := ?_)
        refine aw_iload 4 (kk := ?_)
        refine aw_iconst 1 (v := 1) (kk := ?_)
        refine aw_iadd (kk := ?_)
        refine aw_lI (kk := fun v70 => ?_)
        refine aw_aload_n 0 (kk := ?_)
        refine aw_iload 4 (kk := ?_)
        refine aw_iconst 2 (v := 2) (kk := ?_)
        refine aw_iadd (kk := ?_)
        refine aw_lI (kk := fun v71 => ?_)
        refine aw_aload_n 0 (kk := ?_)
        refine aw_iload 4 (kk := ?_)
        refine aw_iconst 3 (v := 3) (kk := ?_)
        refine aw_iadd (kk := ?_)
        refine aw_lI (kk := fun v72 => ?_)
        refine aw_aload_n 0 (kk := ?_)
        refine aw_iload 4 (kk := ?_)
        refine aw_iconst 4 (v := 4) (kk := ?_)
        refine aw_iadd (kk := ?_)
        refine aw_lI (kk := fun v73 => ?_)
        refine ac_I (st := []) [.ref x2, .int v70, .int v71, .int v72, .int v73] (ag_V 88 10 rc_Md_renamed wd_1507 cal_Md_renamed wd_1508 wd_1509) cal_Md_renamed ⟨by decide, by decide⟩ (Nat.le_of_ble_eq_true rfl) (m_Md_renamed g F σ69 x2 v70 v71 v72 v73) (fun v74 σ75 => ?_)
        refine aw_istore 6 (kk := ?_)
        refine aw_aload_n 2 (kk := ?_)
        refine ac_PI (st := []) [.ref x2] (ag_V 63 10 rc_Md_thrown wd_1283 cal_Md_thrown wd_1284 wd_1285) cal_Md_thrown ⟨by decide, by decide⟩ (Nat.le_of_ble_eq_true rfl) (m_Md_thrown g F σ75 x2) (fun v76 => ?_)
        refine aw_iload 5 (kk := ?_)
        refine aw_icmp_eq 5 496 (kt := fun _ => ?_) (kf := fun _ => ?_)
        · refine aw_iload 5 (kk := ?_)
          refine aw_if_ne 15 513 (kt := fun _ => ?_) (kf := fun _ => ?_)
          · exact am_W.drop [true, true, true, true, true, false, false] (b_Lw_law_j513 F x0 x1 x2 x3 x4 (fun y4 τ => f_Lw_law_l23 F x0 x1 x2 x3 n y4 τ) (fun y4 τ => am_W.drop [true, true, true, true, true, false, false] (ih y4 τ)) σ75)
          · refine aw_aload_n 3 (kk := ?_)
            refine aw_iconst 0 (v := 0) (kk := ?_)
            refine aw_lL (kk := fun v77 => ?_)
            refine aw_iload 6 (kk := ?_)
            refine aw_i2l (kk := ?_)
            refine aw_lcmp (kk := ?_)
            refine aw_if_eq 5 513 (kt := fun _ => ?_) (kf := fun _ => ?_)
            · exact am_W.drop [true, true, true, true, true, false, false] (b_Lw_law_j513 F x0 x1 x2 x3 x4 (fun y4 τ => f_Lw_law_l23 F x0 x1 x2 x3 n y4 τ) (fun y4 τ => am_W.drop [true, true, true, true, true, false, false] (ih y4 τ)) σ75)
            · refine aw_iconst 0 (v := 0) (kk := ?_)
              exact aw_zretL (by decide)
        · refine aw_iconst 0 (v := 0) (kk := ?_)
          exact aw_zretL (by decide)
      refine am_W.ite (fun h78 => ?_) (fun h78 => ?_)
      · refine aw_tsIn 717 0 10 #[60, 144, 200, 256, 292, 340, 384, 476, 544, 624, 692] 60 516 476 (h1 := by rw [h78]; decide) (h2 := by rw [h78]; decide) (ho := by rw [h78]; decide) (kk := ?_)
        refine aw_aload_n 1 (kk := ?_)
        refine aw_aload_n 0 (kk := ?_)
        refine aw_iload 4 (kk := ?_)
        refine aw_iconst 1 (v := 1) (kk := ?_)
        refine aw_iadd (kk := ?_)
        refine aw_lI (kk := fun v79 => ?_)
        refine aw_aload_n 0 (kk := ?_)
        refine aw_iload 4 (kk := ?_)
        refine aw_iconst 2 (v := 2) (kk := ?_)
        refine aw_iadd (kk := ?_)
        refine aw_lI (kk := fun v80 => ?_)
        refine aw_aload_n 3 (kk := ?_)
        refine ac_I (st := []) [.ref x1, .int v79, .int v80, .ref x3] (ag_S 89 wd_1025 cal_Lw_outcome wd_1026) cal_Lw_outcome ⟨by decide, by decide⟩ (Nat.le_of_ble_eq_true rfl) (m_Lw_outcome g F σ x1 v79 v80 x3) (fun v81 σ82 => ?_)
        refine aw_istore 5 (kk := ?_)
        refine aw_aload_n 2 (kk := ?_)
        refine aw_aload_n 0 (kk := ?_)
        refine aw_iload 4 (kk := ?_)
        refine aw_iconst 1 (v := 1) (kk := ?_)
        refine aw_iadd (kk := ?_)
        refine aw_lI (kk := fun v83 => ?_)
        refine aw_aload_n 0 (kk := ?_)
        refine aw_iload 4 (kk := ?_)
        refine aw_iconst 2 (v := 2) (kk := ?_)
        refine aw_iadd (kk := ?_)
        refine aw_lI (kk := fun v84 => ?_)
        refine ac_I (st := []) [.ref x2, .int v83, .int v84] (ag_V 92 10 rc_Md_outcomeb wd_1511 cal_Md_outcomeb wd_1512 wd_1513) cal_Md_outcomeb ⟨by decide, by decide⟩ (Nat.le_of_ble_eq_true rfl) (m_Md_outcomeb g F σ82 x2 v83 v84) (fun v85 σ86 => ?_)
        refine aw_istore 6 (kk := ?_)
        refine aw_aload_n 2 (kk := ?_)
        refine ac_PI (st := []) [.ref x2] (ag_V 63 10 rc_Md_thrown wd_1283 cal_Md_thrown wd_1284 wd_1285) cal_Md_thrown ⟨by decide, by decide⟩ (Nat.le_of_ble_eq_true rfl) (m_Md_thrown g F σ86 x2) (fun v87 => ?_)
        refine aw_iload 5 (kk := ?_)
        refine aw_icmp_eq 5 564 (kt := fun _ => ?_) (kf := fun _ => ?_)
        · refine aw_iload 5 (kk := ?_)
          refine aw_if_ne 15 581 (kt := fun _ => ?_) (kf := fun _ => ?_)
          · exact am_W.drop [true, true, true, true, true, false, false] (b_Lw_law_j581 F x0 x1 x2 x3 x4 (fun y4 τ => f_Lw_law_l23 F x0 x1 x2 x3 n y4 τ) (fun y4 τ => am_W.drop [true, true, true, true, true, false, false] (ih y4 τ)) σ86)
          · refine aw_aload_n 3 (kk := ?_)
            refine aw_iconst 0 (v := 0) (kk := ?_)
            refine aw_lL (kk := fun v88 => ?_)
            refine aw_iload 6 (kk := ?_)
            refine aw_i2l (kk := ?_)
            refine aw_lcmp (kk := ?_)
            refine aw_if_eq 5 581 (kt := fun _ => ?_) (kf := fun _ => ?_)
            · exact am_W.drop [true, true, true, true, true, false, false] (b_Lw_law_j581 F x0 x1 x2 x3 x4 (fun y4 τ => f_Lw_law_l23 F x0 x1 x2 x3 n y4 τ) (fun y4 τ => am_W.drop [true, true, true, true, true, false, false] (ih y4 τ)) σ86)
            · refine aw_iconst 0 (v := 0) (kk := ?_)
              exact aw_zretL (by decide)
        · refine aw_iconst 0 (v := 0) (kk := ?_)
          exact aw_zretL (by decide)
      refine am_W.ite (fun h89 => ?_) (fun h89 => ?_)
      · refine aw_tsIn 717 0 10 #[60, 144, 200, 256, 292, 340, 384, 476, 544, 624, 692] 60 584 544 (h1 := by rw [h89]; decide) (h2 := by rw [h89]; decide) (ho := by rw [h89]; decide) (kk := ?_)
        refine aw_aload_n 1 (kk := ?_)
        refine aw_aload_n 0 (kk := ?_)
        refine aw_iload 4 (kk := ?_)
        refine aw_iconst 1 (v := 1) (kk := ?_)
        refine aw_iadd (kk := ?_)
        refine aw_lI (kk := fun v90 => ?_)
        refine aw_aload_n 0 (kk := ?_)
        refine aw_iload 4 (kk := ?_)
        refine aw_iconst 2 (v := 2) (kk := ?_)
        refine aw_iadd (kk := ?_)
        refine aw_lI (kk := fun v91 => ?_)
        refine aw_aload_n 0 (kk := ?_)
        refine aw_iload 4 (kk := ?_)
        refine aw_iconst 3 (v := 3) (kk := ?_)
        refine aw_iadd (kk := ?_)
        refine aw_lI (kk := fun v92 => ?_)
        refine aw_aload_n 3 (kk := ?_)
        refine ac_I (st := []) [.ref x1, .int v90, .int v91, .int v92, .ref x3] (ag_S 93 wd_1065 cal_Lw_letter wd_1066) cal_Lw_letter ⟨by decide, by decide⟩ (Nat.le_of_ble_eq_true rfl) (m_Lw_letter g F σ x1 v90 v91 v92 x3) (fun v93 σ94 => ?_)
        refine aw_istore 5 (kk := ?_)
        refine aw_aload_n 2 (kk := ?_)
        refine aw_aload_n 0 (kk := ?_)
        refine aw_iload 4 (kk := ?_)
        refine aw_iconst 1 (v := 1) (kk := ?_)
        refine aw_iadd (kk := ?_)
        refine aw_lI (kk := fun v95 => ?_)
        refine aw_aload_n 0 (kk := ?_)
        refine aw_iload 4 (kk := ?_)
        refine aw_iconst 2 (v := 2) (kk := ?_)
        refine aw_iadd (kk := ?_)
        refine aw_lI (kk := fun v96 => ?_)
        refine aw_aload_n 0 (kk := ?_)
        refine aw_iload 4 (kk := ?_)
        refine aw_iconst 3 (v := 3) (kk := ?_)
        refine aw_iadd (kk := ?_)
        refine aw_lI (kk := fun v97 => ?_)
        refine ac_I (st := []) [.ref x2, .int v95, .int v96, .int v97] (ag_V 96 10 rc_Md_letter wd_1520 cal_Md_letter wd_1521 wd_1522) cal_Md_letter ⟨by decide, by decide⟩ (Nat.le_of_ble_eq_true rfl) (m_Md_letter g F σ94 x2 v95 v96 v97) (fun v98 σ99 => ?_)
        refine aw_istore 6 (kk := ?_)
        refine aw_aload_n 2 (kk := ?_)
        refine ac_PI (st := []) [.ref x2] (ag_V 63 10 rc_Md_thrown wd_1283 cal_Md_thrown wd_1284 wd_1285) cal_Md_thrown ⟨by decide, by decide⟩ (Nat.le_of_ble_eq_true rfl) (m_Md_thrown g F σ99 x2) (fun v100 => ?_)
        refine aw_iload 5 (kk := ?_)
        refine aw_icmp_eq 5 644 (kt := fun _ => ?_) (kf := fun _ => ?_)
        · refine aw_iload 5 (kk := ?_)
          refine aw_if_ne 15 661 (kt := fun _ => ?_) (kf := fun _ => ?_)
          · exact am_W.drop [true, true, true, true, true, false, false] (b_Lw_law_j661 F x0 x1 x2 x3 x4 (fun y4 τ => f_Lw_law_l23 F x0 x1 x2 x3 n y4 τ) (fun y4 τ => am_W.drop [true, true, true, true, true, false, false] (ih y4 τ)) σ99)
          · refine aw_aload_n 3 (kk := ?_)
            refine aw_iconst 0 (v := 0) (kk := ?_)
            refine aw_lL (kk := fun v101 => ?_)
            refine aw_iload 6 (kk := ?_)
            refine aw_i2l (kk := ?_)
            refine aw_lcmp (kk := ?_)
            refine aw_if_eq 5 661 (kt := fun _ => ?_) (kf := fun _ => ?_)
            · exact am_W.drop [true, true, true, true, true, false, false] (b_Lw_law_j661 F x0 x1 x2 x3 x4 (fun y4 τ => f_Lw_law_l23 F x0 x1 x2 x3 n y4 τ) (fun y4 τ => am_W.drop [true, true, true, true, true, false, false] (ih y4 τ)) σ99)
            · refine aw_iconst 0 (v := 0) (kk := ?_)
              exact aw_zretL (by decide)
        · refine aw_iconst 0 (v := 0) (kk := ?_)
          exact aw_zretL (by decide)
      refine am_W.ite (fun h102 => ?_) (fun h102 => ?_)
      · refine aw_tsIn 717 0 10 #[60, 144, 200, 256, 292, 340, 384, 476, 544, 624, 692] 60 664 624 (h1 := by rw [h102]; decide) (h2 := by rw [h102]; decide) (ho := by rw [h102]; decide) (kk := ?_)
        refine aw_aload_n 1 (kk := ?_)
        refine aw_aload_n 0 (kk := ?_)
        refine aw_iload 4 (kk := ?_)
        refine aw_iconst 1 (v := 1) (kk := ?_)
        refine aw_iadd (kk := ?_)
        refine aw_lI (kk := fun v103 => ?_)
        refine aw_aload_n 0 (kk := ?_)
        refine aw_iload 4 (kk := ?_)
        refine aw_iconst 2 (v := 2) (kk := ?_)
        refine aw_iadd (kk := ?_)
        refine aw_lI (kk := fun v104 => ?_)
        refine aw_aload_n 3 (kk := ?_)
        refine ac_I (st := []) [.ref x1, .int v103, .int v104, .ref x3] (ag_S 97 wd_1085 cal_Lw_blob wd_1086) cal_Lw_blob ⟨by decide, by decide⟩ (Nat.le_of_ble_eq_true rfl) (m_Lw_blob g F σ x1 v103 v104 x3) (fun v105 σ106 => ?_)
        refine aw_istore 5 (kk := ?_)
        refine aw_aload_n 2 (kk := ?_)
        refine aw_aload_n 0 (kk := ?_)
        refine aw_iload 4 (kk := ?_)
        refine aw_iconst 1 (v := 1) (kk := ?_)
        refine aw_iadd (kk := ?_)
        refine aw_lI (kk := fun v107 => ?_)
        refine aw_aload_n 0 (kk := ?_)
        refine aw_iload 4 (kk := ?_)
        refine aw_iconst 2 (v := 2) (kk := ?_)
        refine aw_iadd (kk := ?_)
        refine aw_lI (kk := fun v108 => ?_)
        refine ac_I (st := []) [.ref x2, .int v107, .int v108] (ag_V 99 10 rc_Md_blob wd_1524 cal_Md_blob wd_1525 wd_1526) cal_Md_blob ⟨by decide, by decide⟩ (Nat.le_of_ble_eq_true rfl) (m_Md_blob g F σ106 x2 v107 v108) (fun v109 σ110 => ?_)
        refine aw_istore 6 (kk := ?_)
        refine aw_aload_n 2 (kk := ?_)
        refine ac_PI (st := []) [.ref x2] (ag_V 63 10 rc_Md_thrown wd_1283 cal_Md_thrown wd_1284 wd_1285) cal_Md_thrown ⟨by decide, by decide⟩ (Nat.le_of_ble_eq_true rfl) (m_Md_thrown g F σ110 x2) (fun v111 => ?_)
        refine aw_iload 5 (kk := ?_)
        refine aw_icmp_eq 5 712 (kt := fun _ => ?_) (kf := fun _ => ?_)
        · refine aw_iload 5 (kk := ?_)
          refine aw_if_ne 15 729 (kt := fun _ => ?_) (kf := fun _ => ?_)
          · exact am_W.drop [true, true, true, true, true, false, false] (b_Lw_law_j729 F x0 x1 x2 x3 x4 (fun y4 τ => f_Lw_law_l23 F x0 x1 x2 x3 n y4 τ) (fun y4 τ => am_W.drop [true, true, true, true, true, false, false] (ih y4 τ)) σ110)
          · refine aw_aload_n 3 (kk := ?_)
            refine aw_iconst 0 (v := 0) (kk := ?_)
            refine aw_lL (kk := fun v112 => ?_)
            refine aw_iload 6 (kk := ?_)
            refine aw_i2l (kk := ?_)
            refine aw_lcmp (kk := ?_)
            refine aw_if_eq 5 729 (kt := fun _ => ?_) (kf := fun _ => ?_)
            · exact am_W.drop [true, true, true, true, true, false, false] (b_Lw_law_j729 F x0 x1 x2 x3 x4 (fun y4 τ => f_Lw_law_l23 F x0 x1 x2 x3 n y4 τ) (fun y4 τ => am_W.drop [true, true, true, true, true, false, false] (ih y4 τ)) σ110)
            · refine aw_iconst 0 (v := 0) (kk := ?_)
              exact aw_zretL (by decide)
        · refine aw_iconst 0 (v := 0) (kk := ?_)
          exact aw_zretL (by decide)
      refine am_W.ite (fun h113 => ?_) (fun h113 => ?_)
      · refine aw_tsIn 717 0 10 #[60, 144, 200, 256, 292, 340, 384, 476, 544, 624, 692] 60 732 692 (h1 := by rw [h113]; decide) (h2 := by rw [h113]; decide) (ho := by rw [h113]; decide) (kk := ?_)
        refine aw_aload_n 1 (kk := ?_)
        refine aw_aload_n 0 (kk := ?_)
        refine aw_iload 4 (kk := ?_)
        refine aw_iconst 1 (v := 1) (kk := ?_)
        refine aw_iadd (kk := ?_)
        refine aw_lI (kk := fun v114 => ?_)
        refine ac_PI (st := []) [.ref x1, .int v114] (ag_V 100 0 rc_MM_count wd_347 cal_MM_count wd_348 wd_349) cal_MM_count ⟨by decide, by decide⟩ (Nat.le_of_ble_eq_true rfl) (m_MM_count g F σ x1 v114) (fun v115 => ?_)
        refine aw_aload_n 2 (kk := ?_)
        refine aw_aload_n 0 (kk := ?_)
        refine aw_iload 4 (kk := ?_)
        refine aw_iconst 1 (v := 1) (kk := ?_)
        refine aw_iadd (kk := ?_)
        refine aw_lI (kk := fun v116 => ?_)
        refine ac_I (st := [.int v115]) [.ref x2, .int v116] (ag_V 103 10 rc_Md_count wd_1528 cal_Md_count wd_1529 wd_1530) cal_Md_count ⟨by decide, by decide⟩ (Nat.le_of_ble_eq_true rfl) (m_Md_count g F σ x2 v116) (fun v117 σ118 => ?_)
        refine aw_icmp_eq 5 757 (kt := fun _ => ?_) (kf := fun _ => ?_)
        · refine aw_iinc 4 6 (v := 6) (kk := ?_)
          refine aw_goto (-737) 23 (kk := ?_)
          exact am_W.drop [true, true, true, true, true, false, false] (ih (x4 + 6) σ118)
        · refine aw_iconst 0 (v := 0) (kk := ?_)
          exact aw_zretL (by decide)
      refine aw_tsOut 717 0 10 #[60, 144, 200, 256, 292, 340, 384, 476, 544, 624, 692] 60 757 (h := am_tsout fun z q1 q2 => ?_) (kk := ?_)
      · have hz : z = 0 ∨ z = 1 ∨ z = 2 ∨ z = 3 ∨ z = 4 ∨ z = 5 ∨ z = 6 ∨ z = 7 ∨ z = 8 ∨ z = 9 ∨ z = 10 := by omega
        rcases hz with hz | hz | hz | hz | hz | hz | hz | hz | hz | hz | hz
        · rw [hz]; exact am_neI h7 (by decide)
        · rw [hz]; exact am_neI h22 (by decide)
        · rw [hz]; exact am_neI h31 (by decide)
        · rw [hz]; exact am_neI h40 (by decide)
        · rw [hz]; exact am_neI h47 (by decide)
        · rw [hz]; exact am_neI h56 (by decide)
        · rw [hz]; exact am_neI h63 (by decide)
        · rw [hz]; exact am_neI h78 (by decide)
        · rw [hz]; exact am_neI h89 (by decide)
        · rw [hz]; exact am_neI h102 (by decide)
        · rw [hz]; exact am_neI h113 (by decide)
      · refine aw_iinc 4 6 (v := 6) (kk := ?_)
        refine aw_goto (-737) 23 (kk := ?_)
        exact am_W.drop [true, true, true, true, true, false, false] (ih (x4 + 6) σ)
def f_Lw_law (F : Nat) (σ : am_S) (x0 : Nat) : Option (Int32 × am_S) :=
  (f_MM_init F (am_no σ 0) σ.1).bind fun σ1 =>
  (f_Md_init F (am_no σ1 10) σ1.1).bind fun σ2 =>
  am_b2 (am_na σ2 .long 1) fun a3 σ4 =>
  f_Lw_law_l23 F x0 σ.1 σ1.1 a3 F 0 σ4
theorem w_Lw_law (g : am_G) (F : Nat) (σ0 σ : am_S) (x0 : Nat) : am_W g mx_Lw_law σ0 0 [some (.ref x0), none, none, none, none, none, none] [] σ (f_Lw_law F σ x0) am_kI := by
  unfold f_Lw_law
  refine aw_new 0 8 (hw := wd_27) (hw2 := wd_28) (hw3 := wd_1) (kk := ?_)
  refine aw_dup (kk := ?_)
  refine ac_V (st := [.ref σ.1]) [.ref σ.1] (ag_I 53 wd_29 cal_MM_init wd_30) cal_MM_init ⟨by decide, by decide⟩ (Nat.le_of_ble_eq_true rfl) (m_MM_init g F (am_no σ 0) σ.1) (fun σ1 => ?_)
  refine aw_astore_n 1 (kk := ?_)
  refine aw_new 10 54 (hw := wd_1094) (hw2 := wd_1095) (hw3 := wd_11) (kk := ?_)
  refine aw_dup (kk := ?_)
  refine ac_V (st := [.ref σ1.1]) [.ref σ1.1] (ag_I 56 wd_1096 cal_Md_init wd_1097) cal_Md_init ⟨by decide, by decide⟩ (Nat.le_of_ble_eq_true rfl) (m_Md_init g F (am_no σ1 10) σ1.1) (fun σ2 => ?_)
  refine aw_astore_n 2 (kk := ?_)
  refine aw_iconst 1 (v := 1) (kk := ?_)
  refine aw_na2 .long (hw := wd_1532) (kk := fun a3 σ4 => ?_)
  refine aw_astore_n 3 (kk := ?_)
  refine aw_iconst 0 (v := 0) (kk := ?_)
  refine aw_istore 4 (kk := ?_)
  exact am_W.drop [true, true, true, true, true, false, false] (b_Lw_law_l23 F x0 σ.1 σ1.1 a3 F 0 σ4)
