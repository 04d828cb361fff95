/-! ===== L3: the reference: merging TEXTS whole ===== -/
abbrev MGT : Nat → Prop := fun a => (136 ≤ a ∧ a ≤ 141) ∨ a = 164
section MT
variable {F : Nat} {ts : Nat → List Int32} {th bm gv gm cm fm : Int32}
/-- what the LINES' pairs are -/
def PRS (g : Gh) (σ : am_S) (ts : Nat → List Int32) : Prop := ∃ pr, Ce g σ 139 (cI 600 pr) ∧ (∀ k, k < (tln (ts 0)).length → pr (200 + k) = oI ((prL (tln (ts 0)) (tln (ts 1)) 0).getD k none)) ∧ ∀ k, k < (tln (ts 0)).length → pr (400 + k) = oI ((prL (tln (ts 0)) (tln (ts 2)) 0).getD k none)
theorem PRS.fo {T : Nat → Prop} {g g1 : Gh} {σ σ1 : am_S} (h : PRS g σ ts) (hf : Fo T g σ g1 σ1) (hT : ¬ T 139) : PRS g1 σ1 ts := by
  obtain ⟨pr, h1, h2⟩ := h
  exact ⟨pr, h1.fo hf hT, h2⟩
theorem oI_prL {X Y : List Ln} (hY : Y.length ≤ 200) {k : Nat} : (oI ((prL X Y 0).getD k none) < 0) ↔ (prL X Y 0).getD k none = none := by
  rw [oI_neg fun i hi => by obtain ⟨-, h2, -⟩ := prL_get hi; omega]
  cases (prL X Y 0).getD k none <;> simp
theorem Md_m88 (hl : ∀ x, x < 3 → (ts x).length ≤ 4096) (hF : 131072 < F) {kk : Int32 → Int32 → Int32 → Int32 → am_S → Option (Int32 × am_S)} : ∀ (m k : Nat) (g : Gh) (σ : am_S), gW g σ → MkS σ → Ce g σ 95 (MDC th bm gv gm cm fm) → LST g σ 3 ts → PRS g σ ts → Ro g σ 164 (mall (tln (ts 0)) (tln (ts 1)) (tln (ts 2)) k).1 → k ≤ (tln (ts 0)).length → (tln (ts 0)).length - k < m →
    ∃ g' σ', f_Md_merged_l88 F 95 164 kk m (bo (mall (tln (ts 0)) (tln (ts 1)) (tln (ts 2)) k).2.1) (nI (mall (tln (ts 0)) (tln (ts 1)) (tln (ts 2)) k).2.2.1) (nI (mall (tln (ts 0)) (tln (ts 1)) (tln (ts 2)) k).2.2.2.1) (nI (mall (tln (ts 0)) (tln (ts 1)) (tln (ts 2)) k).2.2.2.2) (nI k) σ = kk (bo (mall (tln (ts 0)) (tln (ts 1)) (tln (ts 2)) (tln (ts 0)).length).2.1) (nI (mall (tln (ts 0)) (tln (ts 1)) (tln (ts 2)) (tln (ts 0)).length).2.2.1) (nI (mall (tln (ts 0)) (tln (ts 1)) (tln (ts 2)) (tln (ts 0)).length).2.2.2.1) (nI (mall (tln (ts 0)) (tln (ts 1)) (tln (ts 2)) (tln (ts 0)).length).2.2.2.2) σ' ∧ Ro g' σ' 164 (mall (tln (ts 0)) (tln (ts 1)) (tln (ts 2)) (tln (ts 0)).length).1 ∧ Fo (fun a => a = 164) g σ g' σ' := by
  have hl0 := tlnL ts 0
  have hl1 := tlnL ts 1
  have hl2 := tlnL ts 2
  intro m
  induction m with
  | zero => intro k _ _ _ _ _ _ _ _ _ h; omega
  | succ m ih =>
    intro k g σ hg hm hc hL hP hR hk0 hmm
    have z := hc.1
    unfold MDC at z
    have cn := Md_cnt hL (by omega) (j := 0) (by omega)
    rw [nI_0] at cn
    rw [f_Md_merged_l88, gA_of z (k := 11) rfl, Option.bind_some, cn, Option.bind_some]
    by_cases c : (tln (ts 0)).length ≤ k
    · have e : k = (tln (ts 0)).length := by omega
      rw [if_pos (nI_le c (by omega)), ← e]
      exact ⟨g, σ, rfl, hR, Fo.refl _ _ _⟩
    · have hk : k < (tln (ts 0)).length := by omega
      rw [if_neg (nI_ge hk (by omega))]
      obtain ⟨pr, p1, p2, p3⟩ := id hP
      have i1 : (200 : Int32) + nI k = nI (200 + k) := nI_add 200 k
      have i2 : (400 : Int32) + nI k = nI (400 + k) := nI_add 400 k
      have v1 := lI_of p1.1 (i := 200 + k) (by omega) (by omega)
      have v2 := lI_of p1.1 (i := 400 + k) (by omega) (by omega)
      rw [p2 k hk] at v1
      rw [p3 k hk] at v2
      obtain ⟨w1, w2, w3, w4, w5, w6⟩ := mall_in (tln (ts 0)) (tln (ts 1)) (tln (ts 2)) k (by omega)
      have hs := mall_succ (tln (ts 0)) (tln (ts 1)) (tln (ts 2)) k
      simp only [gA_of z (k := 12) rfl, i1, i2, v1, v2, Option.bind_some, oI_prL hl1]
      have skip : mstep (tln (ts 0)) (tln (ts 1)) (tln (ts 2)) (mall (tln (ts 0)) (tln (ts 1)) (tln (ts 2)) k) k = mall (tln (ts 0)) (tln (ts 1)) (tln (ts 2)) k → ∃ g' σ', f_Md_merged_l88 F 95 164 kk m (bo (mall (tln (ts 0)) (tln (ts 1)) (tln (ts 2)) k).2.1) (nI (mall (tln (ts 0)) (tln (ts 1)) (tln (ts 2)) k).2.2.1) (nI (mall (tln (ts 0)) (tln (ts 1)) (tln (ts 2)) k).2.2.2.1) (nI (mall (tln (ts 0)) (tln (ts 1)) (tln (ts 2)) k).2.2.2.2) (nI k + 1) σ = kk (bo (mall (tln (ts 0)) (tln (ts 1)) (tln (ts 2)) (tln (ts 0)).length).2.1) (nI (mall (tln (ts 0)) (tln (ts 1)) (tln (ts 2)) (tln (ts 0)).length).2.2.1) (nI (mall (tln (ts 0)) (tln (ts 1)) (tln (ts 2)) (tln (ts 0)).length).2.2.2.1) (nI (mall (tln (ts 0)) (tln (ts 1)) (tln (ts 2)) (tln (ts 0)).length).2.2.2.2) σ' ∧ Ro g' σ' 164 (mall (tln (ts 0)) (tln (ts 1)) (tln (ts 2)) (tln (ts 0)).length).1 ∧ Fo (fun a => a = 164) g σ g' σ' := by
        intro he
        rw [he] at hs
        rw [nI_1]
        have := ih (k + 1) g σ hg hm hc hL hP (by rw [hs]; exact hR) (by omega) (by omega)
        rw [hs] at this
        exact this
      cases hi : (prL (tln (ts 0)) (tln (ts 1)) 0).getD k none with
      | none =>
        rw [if_pos rfl]
        exact skip (by unfold mstep; rw [hi])
      | some i =>
        obtain ⟨-, hil, hie⟩ := prL_get hi
        rw [if_neg (by simp)]
        cases hj : (prL (tln (ts 0)) (tln (ts 2)) 0).getD k none with
        | none =>
          rw [if_neg (show ¬ (0 : Int32) ≤ oI none by decide)]
          exact skip (by unfold mstep; rw [hi, hj])
        | some j =>
          obtain ⟨-, hjl, hje⟩ := prL_get hj
          rw [oI_some, oI_some, if_pos (nI_pos' (by omega))]
          have e1 := w4 k i (Nat.le_refl _) hi
          have e2 := w5 k j (Nat.le_refl _) hj
          have e3 := sl_mono (X := tln (ts 1)) (i := (mall (tln (ts 0)) (tln (ts 1)) (tln (ts 2)) k).2.2.2.1) (j := (tln (ts 1)).length) w2
          have e4 := sl_mono (X := tln (ts 2)) (i := (mall (tln (ts 0)) (tln (ts 1)) (tln (ts 2)) k).2.2.2.2) (j := (tln (ts 2)).length) w3
          obtain ⟨st, ct, -, -, hns⟩ := id hL.2
          have r0 := (hns 0 (by omega)).2
          have r1 := (hns 1 (by omega)).2
          have r2 := (hns 2 (by omega)).2
          have f1 := tln_sl r1 (tln (ts 1)).length
          have f2 := tln_sl r2 (tln (ts 2)).length
          have b0 := hl 0 (by omega)
          have b1 := hl 1 (by omega)
          have b2 := hl 2 (by omega)
          obtain ⟨g1, σ1, q1, q2, q3⟩ := Md_part (F := F) hg hm hc hL hR w1 (show k ≤ (tln (ts 0)).length by omega) e1 (by omega) e2 (by omega) hl (by omega) hF
          have hc1 := hc.fo q3 (by omega)
          have hL1 := hL.fo q3 fun a _ _ => by omega
          have hg1 := hg.fo q3
          have hm1 := hm.fo hg q3 fun a ha => by omega
          have z1 := hc1.1
          unfold MDC at z1
          have t0 := hL1.1.at (j := 0) (by omega)
          have s1 := Md_start (F := F) hc1 hL1 (by omega) (j := 0) (k := k) (by omega) (by omega)
          have s2 := Md_start (F := F) hc1 hL1 (by omega) (j := 0) (k := k + 1) (by omega) (by omega)
          rw [nI_0] at t0 s1 s2
          have R0 := hL1.1.2 0 (by omega)
          have pl := prtT_len (slc (tln (ts 0)) (mall (tln (ts 0)) (tln (ts 1)) (tln (ts 2)) k).2.2.1 k) (slc (tln (ts 1)) (mall (tln (ts 0)) (tln (ts 1)) (tln (ts 2)) k).2.2.2.1 i) (slc (tln (ts 2)) (mall (tln (ts 0)) (tln (ts 1)) (tln (ts 2)) k).2.2.2.2 j)
          have x1 := slc_sl (X := tln (ts 1)) e1
          have x2 := slc_sl (X := tln (ts 2)) e2
          have x3 := tln_sl r1 i
          have x4 := tln_sl r2 j
          have x5 := sl_mono (X := tln (ts 0)) (i := k) (j := k + 1) (by omega)
          have x6 := tln_sl r0 (k + 1)
          obtain ⟨g2, σ2, u1, u2, u3⟩ := Ro_addb (F := F) q2 R0 (show 130 + 2 * 0 ≠ 164 by omega) x5 x6 (by rw [List.length_append]; omega) hF
          have eB : ((ts 0).take (sl ((tln (ts 0)).take (k + 1)))).drop (sl ((tln (ts 0)).take k)) = (tln (ts 0))[k] := slB_tln r0 hk
          rw [eB] at u2
          have hst : mall (tln (ts 0)) (tln (ts 1)) (tln (ts 2)) (k + 1) = ((mall (tln (ts 0)) (tln (ts 1)) (tln (ts 2)) k).1 ++ (prtT (slc (tln (ts 0)) (mall (tln (ts 0)) (tln (ts 1)) (tln (ts 2)) k).2.2.1 k) (slc (tln (ts 1)) (mall (tln (ts 0)) (tln (ts 1)) (tln (ts 2)) k).2.2.2.1 i) (slc (tln (ts 2)) (mall (tln (ts 0)) (tln (ts 1)) (tln (ts 2)) k).2.2.2.2 j)).1 ++ (tln (ts 0)).getD k [], (mall (tln (ts 0)) (tln (ts 1)) (tln (ts 2)) k).2.1 || (prtT (slc (tln (ts 0)) (mall (tln (ts 0)) (tln (ts 1)) (tln (ts 2)) k).2.2.1 k) (slc (tln (ts 1)) (mall (tln (ts 0)) (tln (ts 1)) (tln (ts 2)) k).2.2.2.1 i) (slc (tln (ts 2)) (mall (tln (ts 0)) (tln (ts 1)) (tln (ts 2)) k).2.2.2.2 j)).2, k + 1, i + 1, j + 1) := by
            rw [hs]
            unfold mstep
            rw [hi, hj]
          have eg : (tln (ts 0)).getD k [] = (tln (ts 0))[k] := by simp [hk]
          rw [eg] at hst
          rw [q1]
          simp only [am_b2, Option.bind_some, gA_of z1 (k := 8) rfl, t0, s1, nI_1, s2]
          rw [u1]
          simp only [Option.bind_some, bo_or2]
          have := ih (k + 1) g2 σ2 (hg1.fo u3) (hm1.fo hg1 u3 fun a ha => by omega) (hc1.fo u3 (by omega)) (hL1.fo u3 fun a _ _ => by omega) ((hP.fo q3 (by omega)).fo u3 (by omega)) (by rw [hst]; exact u2) (by omega) (by omega)
          rw [hst] at this
          obtain ⟨g', σ', y1, y2, y3⟩ := this
          exact ⟨g', σ', y1, y2, (q3.trans u3).trans y3⟩
theorem Md_merged {g : Gh} {σ : am_S} {T0 : List Int32} (hg : gW g σ) (hm : MkS σ) (hc : Ce g σ 95 (MDC th bm gv gm cm fm)) (hT : TX3 g σ ts) (hS : SCA g σ) (hR : Ro g σ 164 T0) (hl : ∀ x, x < 3 → (ts x).length ≤ 4096) (hF : 131072 < F) :
    ∃ g' σ', f_Md_merged F σ 95 164 = some (bo (mrgT (ts 0) (ts 1) (ts 2)).2, σ') ∧ Ro g' σ' 164 (mrgT (ts 0) (ts 1) (ts 2)).1 ∧ SCA g' σ' ∧ (mrgT (ts 0) (ts 1) (ts 2)).1.length ≤ 20000 ∧ Fo MGT g σ g' σ' := by
  have n0 : nI 0 = 0 := rfl
  have n1 : nI 1 = 1 := rfl
  have n2 : nI 2 = 2 := rfl
  have n3 : nI 3 = 3 := rfl
  have z := hc.1
  unfold MDC at z
  obtain ⟨σ1, a1, a2, a3⟩ := Ro_clear (F := F) hR
  have hc1 := hc.fo a3 (by omega)
  have T1 := hT.fo a3 fun a _ _ => by omega
  have S1 := hS.fo a3 fun a _ => by omega
  obtain ⟨st0, s0⟩ := S1 136 .int 606 rfl
  obtain ⟨ct0, c0⟩ := S1 138 .int 3 rfl
  obtain ⟨σ2, st2, ct2, b1, b2, b3, b4, b5, b6, b7⟩ := Md_cut (F := F) (x := 0) hc1 T1 (by omega) (by have := hl 0 (by omega); omega) s0 c0 hF
  have hc2 := hc1.fo b7 (by omega)
  have T2 := T1.fo b7 fun a _ _ => by omega
  obtain ⟨σ3, st3, ct3, d1, d2, d3, d4, d5, d6, d7⟩ := Md_cut (F := F) (x := 1) hc2 T2 (by omega) (by have := hl 1 (by omega); omega) b2 b3 hF
  have hc3 := hc2.fo d7 (by omega)
  have T3 := T2.fo d7 fun a _ _ => by omega
  obtain ⟨σ4, st4, ct4, e1, e2, e3, e4, e5, e6, e7⟩ := Md_cut (F := F) (x := 2) hc3 T3 (by omega) (by have := hl 2 (by omega); omega) d2 d3 hF
  have hc4 := hc3.fo e7 (by omega)
  have T4 := T3.fo e7 fun a _ _ => by omega
  have L0 : LNS st4 ct4 0 (ts 0) := (b4.other (by omega) d5 d6).other (by omega) e5 e6
  have L1 : LNS st4 ct4 1 (ts 1) := d4.other (by omega) e5 e6
  rw [n0] at b1
  rw [n1] at d1
  rw [n2] at e1
  have W14 : Fo (fun a => a = 136 ∨ a = 138) g σ1 g σ4 := (b7.trans d7).trans e7
  have W4 : Fo MGT g σ g σ4 := (a3.mono fun a ha => Or.inr ha).trans (W14.mono fun a ha => Or.inl ⟨by omega, by omega⟩)
  have S4 : SCA g σ4 := by
    intro a ty n ha
    by_cases e6 : a = 136
    · subst e6; cases ha; exact ⟨_, e2⟩
    · by_cases e8 : a = 138
      · subst e8; cases ha; exact ⟨_, e3⟩
      · obtain ⟨f, c⟩ := S1 a ty n ha
        exact ⟨f, c.fo W14 (by omega)⟩
  have R4 := a2.fo W14 (by omega)
  have hg4 := hg.fo W4
  have hm4 := hm.fo hg W4 fun a ha z => by omega
  have z4 := hc4.1
  unfold MDC at z4
  have g8 : am_gA σ4 10 8 95 = some 129 := gA_of z4 (k := 8) rfl
  have g11 : am_gA σ4 10 11 95 = some 138 := gA_of z4 (k := 11) rfl
  have k0 := lI_of e3.1 (i := 0) (by omega) (by omega)
  have k1 := lI_of e3.1 (i := 1) (by omega) (by omega)
  have k2 := lI_of e3.1 (i := 2) (by omega) (by omega)
  rw [n0] at k0
  rw [n1] at k1
  rw [n2] at k2
  have hl0 := tlnL ts 0
  have hl1 := tlnL ts 1
  have hl2 := tlnL ts 2
  obtain ⟨F', rfl⟩ : ∃ F', F = F' + 4 := ⟨F - 4, by omega⟩
  have start : f_Md_merged (F' + 4) σ 95 164 = f_Md_merged_j22 (F' + 4) 95 164 σ4 := by
    unfold f_Md_merged
    rw [am_ck_of z, a1, Option.bind_some, f_Md_merged_l6, if_neg (by decide), b1, Option.bind_some, f_Md_merged_l6, if_neg (by decide), show (0 : Int32) + 1 = 1 from rfl, d1, Option.bind_some, f_Md_merged_l6, if_neg (by decide), show (1 : Int32) + 1 = 2 from rfl, e1, Option.bind_some, f_Md_merged_l6, if_pos (by decide)]
  rw [start]
  have rough : (rgh (ts 0) || rgh (ts 1) || rgh (ts 2)) = true → ∃ g' σ', f_Md_merged_j49 (F' + 4) 95 164 σ4 = some (bo (mrgT (ts 0) (ts 1) (ts 2)).2, σ') ∧ Ro g' σ' 164 (mrgT (ts 0) (ts 1) (ts 2)).1 ∧ SCA g' σ' ∧ (mrgT (ts 0) (ts 1) (ts 2)).1.length ≤ 20000 ∧ Fo MGT g σ g' σ' := by
    intro hr
    have em : mrgT (ts 0) (ts 1) (ts 2) = (ts 1, true) := by unfold mrgT; rw [if_pos hr]
    have b1 := hl 1 (by omega)
    have t1 := T4.at (j := 1) (by omega)
    rw [n1] at t1
    obtain ⟨g5, σ5, q1, q2, q3⟩ := Ro_set (F := F' + 4) R4 (T4.2 1 (by omega)) (show 130 + 2 * 1 ≠ 164 by omega) (by omega) hF
    unfold f_Md_merged_j49 f_Md_merged_j54 f_Md_merged_j241 f_Md_merged_j256
    rw [if_neg (by decide), if_neg (by decide), g8, Option.bind_some, t1, Option.bind_some, q1, em]
    exact ⟨g5, σ5, rfl, q2, S4.fo q3 fun a _ => by omega, by simp only; omega, W4.trans (q3.mono fun a ha => Or.inr ha)⟩
  unfold f_Md_merged_j22
  simp only [g11, k0, k1, k2, Option.bind_some]
  have v0 := L0.1
  have v1 := L1.1
  have v2 := e4.1
  cases h0 : rgh (ts 0) with
  | true =>
    rw [h0, if_pos rfl] at v0
    rw [v0, if_pos (by decide)]
    exact rough (by rw [h0]; rfl)
  | false =>
    rw [h0, if_neg Bool.false_ne_true] at v0
    rw [v0, if_neg (nI_pos (by omega))]
    cases h1 : rgh (ts 1) with
    | true =>
      rw [h1, if_pos rfl] at v1
      rw [v1, if_pos (by decide)]
      exact rough (by rw [h1, h0]; rfl)
    | false =>
      rw [h1, if_neg Bool.false_ne_true] at v1
      rw [v1, if_neg (nI_pos (by omega))]
      cases h2 : rgh (ts 2) with
      | true =>
        rw [h2, if_pos rfl] at v2
        rw [v2, if_neg (by decide)]
        exact rough (by rw [h2, h1, h0]; rfl)
      | false =>
        rw [h2, if_neg Bool.false_ne_true] at v2
        rw [v2, if_pos (nI_pos' (by omega))]
        unfold f_Md_merged_j54
        rw [if_pos rfl]
        have em : mrgT (ts 0) (ts 1) (ts 2) = mrgL (tln (ts 0)) (tln (ts 1)) (tln (ts 2)) := by unfold mrgT; rw [if_neg (by rw [h0, h1, h2]; decide)]
        have hL : LST g σ4 3 ts := ⟨T4, st4, ct4, e2, e3, fun j hj => by
          have : j = 0 ∨ j = 1 ∨ j = 2 := by omega
          rcases this with rfl | rfl | rfl
          · exact ⟨L0, h0⟩
          · exact ⟨L1, h1⟩
          · exact ⟨e4, h2⟩⟩
        obtain ⟨kd, K4⟩ := S4 137 .int 600 rfl
        obtain ⟨σ5, f1, f2, f3⟩ := Md_sort (F := F' + 4) (n := 3) (by omega) hc4 hL K4 hF
        rw [n3] at f1
        have hc5 := hc4.fo f3 (by omega)
        have hL5 := hL.fo f3 fun a _ _ => by omega
        obtain ⟨pr, P4⟩ := S4 139 .int 600 rfl
        obtain ⟨ab, A4⟩ := S4 140 .int 202 rfl
        obtain ⟨be, B4⟩ := S4 141 .int 202 rfl
        obtain ⟨σ6, pr6, ab6, be6, p1, p2, p3, p4, p5, p6, p7⟩ := Md_pair (F := F' + 4) (x := 1) hc5 hL5 f2 (A4.fo f3 (by omega)) (B4.fo f3 (by omega)) (P4.fo f3 (by omega)) (by omega) hF
        have hc6 := hc5.fo p7 (by omega)
        have hL6 := hL5.fo p7 fun a _ _ => by omega
        have K6 := f2.fo p7 (by omega)
        obtain ⟨σ7, pr7, ab7, be7, r1, r2, r3, r4, r5, r6, r7⟩ := Md_pair (F := F' + 4) (x := 2) hc6 hL6 K6 p3 p4 p2 (by omega) hF
        have hc7 := hc6.fo r7 (by omega)
        have hL7 := hL6.fo r7 fun a _ _ => by omega
        rw [n1] at p1
        rw [n2] at r1
        have P7 : PRS g σ7 ts := ⟨pr7, r2, fun k hk => by
          rw [r6 _ (by omega)]
          have := p5 k hk
          rw [show 1 * 200 + k = 200 + k by omega] at this
          exact this, fun k hk => by
          have := r5 k hk
          rw [show 2 * 200 + k = 400 + k by omega] at this
          exact this⟩
        have W47 : Fo (fun a => 137 ≤ a ∧ a ≤ 141) g σ4 g σ7 := ((f3.mono fun a ha => ⟨by omega, by omega⟩).trans (p7.mono fun a ha => ⟨by omega, by omega⟩)).trans (r7.mono fun a ha => ⟨by omega, by omega⟩)
        have R7 := R4.fo W47 (by omega)
        have hg7 := hg4.fo W47
        have hm7 := hm4.fo hg4 W47 fun a ha => by omega
        obtain ⟨g8', σ8, u1, u2, u3⟩ := Md_m88 (F := F' + 4) hl hF (kk := fun y3 y4 y5 y6 τ => f_Md_merged_j209 (F' + 4) 95 164 0 y3 y4 y5 y6 τ) (F' + 4) 0 g σ7 hg7 hm7 hc7 hL7 P7 R7 (by omega) (by omega)
        have hc8 := hc7.fo u3 (by omega)
        have hL8 := hL7.fo u3 fun a _ _ => by omega
        have hg8 := hg7.fo u3
        have hm8 := hm7.fo hg7 u3 fun a ha => by omega
        obtain ⟨w1, w2, w3, w4, w5, w6⟩ := mall_in (tln (ts 0)) (tln (ts 1)) (tln (ts 2)) (tln (ts 0)).length (Nat.le_refl _)
        have x3 := tln_sl h1 (mall (tln (ts 0)) (tln (ts 1)) (tln (ts 2)) (tln (ts 0)).length).2.2.2.1
        have x4 := tln_sl h2 (mall (tln (ts 0)) (tln (ts 1)) (tln (ts 2)) (tln (ts 0)).length).2.2.2.2
        have b1 := hl 1 (by omega)
        have b2 := hl 2 (by omega)
        obtain ⟨g9, σ9, y1, y2, y3⟩ := Md_part (F := F' + 4) hg8 hm8 hc8 hL8 u2 w1 (Nat.le_refl _) w2 (Nat.le_refl _) w3 (Nat.le_refl _) hl (by omega) hF
        have z8 := hc8.1
        unfold MDC at z8
        have q0 := Md_cnt hL8 (by omega) (j := 0) (by omega)
        have q1 := Md_cnt hL8 (by omega) (j := 1) (by omega)
        have q2 := Md_cnt hL8 (by omega) (j := 2) (by omega)
        rw [n0] at q0
        rw [n1] at q1
        rw [n2] at q2
        have hR9 : Ro g9 σ9 164 (mrgT (ts 0) (ts 1) (ts 2)).1 := by rw [em]; exact y2
        have pl := prtT_len (slc (tln (ts 0)) (mall (tln (ts 0)) (tln (ts 1)) (tln (ts 2)) (tln (ts 0)).length).2.2.1 (tln (ts 0)).length) (slc (tln (ts 1)) (mall (tln (ts 0)) (tln (ts 1)) (tln (ts 2)) (tln (ts 0)).length).2.2.2.1 (tln (ts 1)).length) (slc (tln (ts 2)) (mall (tln (ts 0)) (tln (ts 1)) (tln (ts 2)) (tln (ts 0)).length).2.2.2.2 (tln (ts 2)).length)
        have x5 := slc_sl (X := tln (ts 1)) w2
        have x6 := slc_sl (X := tln (ts 2)) w3
        have x7 := tln_sl h1 (tln (ts 1)).length
        have x8 := tln_sl h2 (tln (ts 2)).length
        have hlen : (mrgT (ts 0) (ts 1) (ts 2)).1.length ≤ 20000 := by
          rw [em]
          unfold mrgL
          rw [List.length_append]
          omega
        have hn9 := Ro_n hR9
        have W9 : Fo MGT g σ g9 σ9 := (W4.trans (W47.mono fun a ha => Or.inl ⟨by omega, by omega⟩)).trans ((u3.mono fun a ha => Or.inr ha).trans (y3.mono fun a ha => Or.inr ha))
        have S7 : SCA g σ7 := by
          intro a ty n ha
          by_cases e7 : a = 137
          · subst e7
            cases ha
            obtain ⟨kd, kc, -⟩ := K6.fo r7 (by omega)
            exact ⟨kd, kc⟩
          · by_cases e9 : a = 139
            · subst e9; cases ha; exact ⟨_, r2⟩
            · by_cases e0 : a = 140
              · subst e0; cases ha; exact ⟨_, r3⟩
              · by_cases e1 : a = 141
                · subst e1; cases ha; exact ⟨_, r4⟩
                · by_cases e8 : a = 138
                  · subst e8; cases ha
                    exact ⟨_, ((e3.fo f3 (by omega)).fo p7 (by omega)).fo r7 (by omega)⟩
                  · obtain ⟨f, c⟩ := S4 a ty n ha
                    exact ⟨f, c.fo W47 (by omega)⟩
        rw [f1, Option.bind_some, p1, Option.bind_some, r1, Option.bind_some]
        rw [show f_Md_merged_l88 (F' + 4) 95 164 (fun y3 y4 y5 y6 τ => f_Md_merged_j209 (F' + 4) 95 164 0 y3 y4 y5 y6 τ) (F' + 4) 0 0 0 0 0 σ7 = _ from u1]
        unfold f_Md_merged_j209
        simp only [gA_of z8 (k := 11) rfl, q0, q1, q2, Option.bind_some]
        rw [y1]
        simp only [am_b2, Option.bind_some, bo_or2]
        unfold f_Md_merged_j241
        rw [if_pos rfl, hn9, Option.bind_some, if_neg (show ¬ (65536 : Int32) < nI (mrgT (ts 0) (ts 1) (ts 2)).1.length from nI_nlt (a := 65536) (by omega) (by omega))]
        unfold am_z
        rw [if_pos (bo_or _)]
        refine ⟨g9, σ9, ?_, hR9, (S7.fo u3 fun a _ => by omega).fo y3 fun a _ => by omega, hlen, W9⟩
        rw [em]
        rfl
end MT
