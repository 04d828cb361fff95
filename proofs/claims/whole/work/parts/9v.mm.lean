/-! ===== L3: the reference: merging the MAPS ===== -/
def orc (P0 P1 P2 : PL) (e : Og) : Rc := (e.2.2.1, oI (gsrc P0 P1 P2 e.1).1, oI (gsrc P0 P1 P2 e.1).2.1, oI (gsrc P0 P1 P2 e.1).2.2, some e.2.2.2)
theorem rqs_og (B : List (List Int32)) (P0 P1 P2 : PL) : ∀ gs : List Gp, ((rqs P0 P1 P2 gs).map fun r => r.1) = ogP (ogs B P0 P1 P2 gs) ∧ ((rqs P0 P1 P2 gs).map fun r => rc1 B r.2.1 r.2.2) = (ogs B P0 P1 P2 gs).map (orc P0 P1 P2)
  | [] => ⟨rfl, rfl⟩
  | g :: gs => by
    obtain ⟨h1, h2⟩ := rqs_og B P0 P1 P2 gs
    unfold rqs ogs ogP at *
    rw [List.filterMap_cons, List.filterMap_cons]
    unfold og
    cases grec P0 P1 P2 g with
    | none => exact ⟨h1, h2⟩
    | some x =>
      simp only [Option.map_some, List.map_cons]
      refine ⟨?_, ?_⟩
      · rw [h1]; rfl
      · rw [h2]; rfl
theorem frS_frT (P0 P1 P2 : PL) : ∀ O : List Og, frS (O.map (orc P0 P1 P2)) = sl (frT O)
  | [] => rfl
  | e :: O => by
    have ih := frS_frT P0 P1 P2 O
    have h1 : frS ((e :: O).map (orc P0 P1 P2)) = frL (some e.2.2.2) + frS (O.map (orc P0 P1 P2)) := by
      unfold frS
      rw [List.map_cons, List.map_cons, List.sum_cons]
      rfl
    rw [h1, frT_cons, sl_app, ih]
    congr 1
    have h2 : frT [e] = (match e.2.2.2.1 with | some _ => none | none => some e.2.2.2.2 : Option (List Int32)).toList := frT_snoc [] e
    rw [h2]
    obtain ⟨a, b, c, bl, t⟩ := e
    cases bl with
    | none => simp [frL, sl_one]
    | some k => rfl
theorem og_in {B : List (List Int32)} {P0 P1 P2 : PL} {gs : List Gp} {e : Og} (h : e ∈ ogs B P0 P1 P2 gs) : ∃ x, e.1 ∈ gs ∧ grec P0 P1 P2 e.1 = some x ∧ e = (e.1, x.1, gtxt B (gsrc P0 P1 P2 e.1) x.2) := by
  obtain ⟨g, hg, he⟩ := List.mem_filterMap.mp h
  unfold og at he
  cases hx : grec P0 P1 P2 g with
  | none => rw [hx] at he; cases he
  | some x =>
    rw [hx] at he
    simp only [Option.map_some, Option.some.injEq] at he
    subst he
    exact ⟨x, hg, hx, rfl⟩
theorem ogs_B {B : List (List Int32)} {P0 P1 P2 : PL} {gs : List Gp} (v0 : VB B P0) (v1 : VB B P1) (v2 : VB B P2) (t1 : Srt P1) (t2 : Srt P2) (hg : ∀ g ∈ gs, gOK P0 P1 P2 g) : ogB (ogs B P0 P1 P2 gs) := by
  intro i hi
  rw [op_of hi]
  obtain ⟨x, h1, h2, h3⟩ := og_in (List.getElem_mem hi)
  rw [h3]
  exact (grec_ok v0 v1 v2 t1 t2 (hg _ h1) h2).1
section MMS
variable {F : Nat} {th gv : Int32} {B : List (List Int32)} {P0 P1 P2 : PL} {g : Gh}
theorem Md_l68 (l1 : P1.length ≤ 400) {kk : am_S → Option ((Nat ⊕ Unit) × am_S)} : ∀ (m j : Nat) (σ : am_S) (od : Nat → Int32), DCI g σ th gv B P0 P1 P2 [] → Ce g σ 160 (cZ 1700 od) → (∀ k, k < j → od k = 0) → j ≤ P1.length → P1.length - j < m →
    ∃ σ' od', f_Md_mergeMaps_l68 F 95 kk m (nI j) σ = kk σ' ∧ DCI g σ' th gv B P0 P1 P2 [] ∧ Ce g σ' 160 (cZ 1700 od') ∧ (∀ k, k < P1.length → od' k = 0) ∧ Fo (fun a => a = 160) g σ g σ' := by
  intro m
  induction m with
  | zero => intro j _ _ _ _ _ _ h; omega
  | succ m ih =>
    intro j σ od hD h1 h2 h3 h4
    obtain ⟨⟨-, -, -, k4, k5, k6, -⟩, ⟨⟨gm, cm, hc⟩, -⟩, -⟩ := id hD
    have z := hc.1
    unfold MDC at z
    rw [f_Md_mergeMaps_l68, gA_of z (k := 21) rfl, Option.bind_some, Ps_n k5, Option.bind_some, mpE_len]
    by_cases c : P1.length ≤ j
    · rw [if_pos (nI_le c (by omega))]
      exact ⟨σ, od, rfl, hD, h1, fun k hk => h2 k (by omega), Fo.refl _ _ _⟩
    · rw [if_neg (nI_ge (by omega) (by omega)), gA_of z (k := 28) rfl, Option.bind_some]
      obtain ⟨σ1, q1, q2, q3⟩ := h1.sz false (by omega) (show j < 1700 by omega) (by omega)
      rw [show (0 : Int32) = bo false from rfl, q1, Option.bind_some, nI_1]
      obtain ⟨σ', od', r1, r2, r3, r4, r5⟩ := ih (j + 1) σ1 _ (hD.w q3 (by omega) rfl q2) q2 (fun k hk => by
        by_cases e : k = j
        · subst e; rw [uf_same]; rfl
        · rw [uf_ne e]; exact h2 k (by omega)) (by omega) (by omega)
      exact ⟨σ', od', r1, r2, r3, r4, q3.trans r5⟩
theorem Md_l94 (l2 : P2.length ≤ 400) {kk : am_S → Option ((Nat ⊕ Unit) × am_S)} : ∀ (m j : Nat) (σ : am_S) (od : Nat → Int32), DCI g σ th gv B P0 P1 P2 [] → Ce g σ 161 (cZ 1700 od) → (∀ k, k < j → od k = 0) → j ≤ P2.length → P2.length - j < m →
    ∃ σ' od', f_Md_mergeMaps_l94 F 95 kk m (nI j) σ = kk σ' ∧ DCI g σ' th gv B P0 P1 P2 [] ∧ Ce g σ' 161 (cZ 1700 od') ∧ (∀ k, k < P2.length → od' k = 0) ∧ Fo (fun a => a = 161) g σ g σ' := by
  intro m
  induction m with
  | zero => intro j _ _ _ _ _ _ h; omega
  | succ m ih =>
    intro j σ od hD h1 h2 h3 h4
    obtain ⟨⟨-, -, -, k4, k5, k6, -⟩, ⟨⟨gm, cm, hc⟩, -⟩, -⟩ := id hD
    have z := hc.1
    unfold MDC at z
    rw [f_Md_mergeMaps_l94, gA_of z (k := 22) rfl, Option.bind_some, Ps_n k6, Option.bind_some, mpE_len]
    by_cases c : P2.length ≤ j
    · rw [if_pos (nI_le c (by omega))]
      exact ⟨σ, od, rfl, hD, h1, fun k hk => h2 k (by omega), Fo.refl _ _ _⟩
    · rw [if_neg (nI_ge (by omega) (by omega)), gA_of z (k := 29) rfl, Option.bind_some]
      obtain ⟨σ1, q1, q2, q3⟩ := h1.sz false (by omega) (show j < 1700 by omega) (by omega)
      rw [show (0 : Int32) = bo false from rfl, q1, Option.bind_some, nI_1]
      obtain ⟨σ', od', r1, r2, r3, r4, r5⟩ := ih (j + 1) σ1 _ (hD.w q3 (by omega) rfl q2) q2 (fun k hk => by
        by_cases e : k = j
        · subst e; rw [uf_same]; rfl
        · rw [uf_ne e]; exact h2 k (by omega)) (by omega) (by omega)
      exact ⟨σ', od', r1, r2, r3, r4, q3.trans r5⟩
/-- the pairs, kept -/
theorem Md_rnm {σ : am_S} {Q : PL} {mq ra : Nat} (hD : DCI g σ th gv B P0 P1 P2 []) (hQ : Ps g σ mq (mpE Q)) (hmq : 97 ≤ mq ∧ mq + 5 ≤ 114) (hra : ra = 157 ∨ ra = 158) (l0 : P0.length ≤ 400) (lq : Q.length ≤ 400) (v0 : VB B P0) (vq : VB B Q) (hBl : ∀ t ∈ B, t.length ≤ 4096) (hF : 131072 < F) :
    ∃ g' σ', f_Md_renames F σ 95 97 mq ra 159 = some σ' ∧ DCI g' σ' th gv B P0 P1 P2 [] ∧ PAR g' σ' ra B P0 Q ∧ Fo (RNT ra) g σ g' σ' := by
  obtain ⟨hE, hFI, hOI⟩ := id hD
  obtain ⟨k1, k2, k3, k4, k5, k6, k7, k8, t, k9⟩ := id hE
  obtain ⟨⟨gm, cm, hc⟩, f2, ⟨ff, f3, f4⟩, f5⟩ := id hFI
  obtain ⟨g1, σ1, N, q1, q2, q3⟩ := Md_renames (F := F) (ra := ra) (P := P0) (Q := Q) hc k4 hQ k7 k8 k3 (by omega) hmq hra l0 lq v0 vq hBl hF
  obtain ⟨hc2, hP2, hQ2, hS2, hT2, hB2, -, -, ⟨ar, e1, e2⟩, -⟩ := q2
  refine ⟨g1, σ1, q1, ⟨hE.fo q3 (fun a ha => by unfold RNT at ha; omega) hS2 hT2 ⟨t, k9.fo q3 (by omega)⟩, ⟨⟨_, _, hc2⟩, f2.fo q3 (by omega), ⟨ff, f3.fo q3 (by omega), f4⟩, f5⟩, hOI.fo q3 fun a ha => by omega⟩, ⟨ar, e1, e2⟩, q3⟩
end MMS
abbrev MQT : Nat → Prop := fun a => a = 95 ∨ (129 ≤ a ∧ a ≤ 169)
section MMT
variable {F : Nat} {th : Int32} {g : Gh} {σ : am_S} {as : List (List Int32)} {inp : List Int32} {B : List (List Int32)} {P : Nat → PL} {R : PL × List Rc}
theorem DCI.mdi {g g1 : Gh} {σ σ1 : am_S} {O : List Og} (h : MDI g σ th (as, inp, B, P, R)) (hD : DCI g1 σ1 th (nI as.length) B (P 0) (P 1) (P 2) O) (hR : ∃ Q, Ps g1 σ1 151 Q) (hf : Fo MQT g σ g1 σ1) : MDI g1 σ1 th (as, inp, B, P, R) := by
  obtain ⟨⟨k1, k2, k3, k4, k5, k6, k7, k8, k9⟩, ⟨⟨gm, cm, hc⟩, f2, -⟩, o1, -⟩ := hD
  exact h.scr hf (fun a ha => ha) hc ⟨k7, k8, ⟨_, o1⟩, hR, ⟨_, f2⟩, k9⟩
theorem Md_mergeMaps (h : MDI g σ th (as, inp, B, P, R)) (hw : MSW (as, inp, B, P, R)) (hz : MSZ (as, inp, B, P, R)) (hF : 131072 < F) :
    ∃ g' σ' I, MDI g' σ' th (as, inp, B, P, R) ∧ Fo MQT g σ g' σ' ∧ match mrgM B (P 0) (P 1) (P 2) with
      | none => f_Md_mergeMaps F σ 95 = some (.inl 1, σ')
      | some x => f_Md_mergeMaps F σ 95 = some (.inr (), σ') ∧ DCI g' σ' th (nI as.length) B (P 0) (P 1) (P 2) (ogs B (P 0) (P 1) (P 2) (grps B (P 0) (P 1) (P 2))) ∧ Ps g' σ' 151 (rQ (ogs B (P 0) (P 1) (P 2) (grps B (P 0) (P 1) (P 2))) I) ∧ GI (ogs B (P 0) (P 1) (P 2) (grps B (P 0) (P 1) (P 2))) I ∧ I.length = (ogs B (P 0) (P 1) (P 2) (grps B (P 0) (P 1) (P 2))).length ∧ I.length ≤ 400 ∧ x = (iP (ogs B (P 0) (P 1) (P 2) (grps B (P 0) (P 1) (P 2))) I, (ogs B (P 0) (P 1) (P 2) (grps B (P 0) (P 1) (P 2))).map (orc (P 0) (P 1) (P 2))) := by
  obtain ⟨t0, v0, -⟩ := hw.2.1 0 (by omega)
  obtain ⟨t1, v1, -⟩ := hw.2.1 1 (by omega)
  obtain ⟨t2, v2, -⟩ := hw.2.1 2 (by omega)
  obtain ⟨l0, p0⟩ := hz.2.1 0 (by omega)
  obtain ⟨l1, p1⟩ := hz.2.1 1 (by omega)
  obtain ⟨l2, p2⟩ := hz.2.1 2 (by omega)
  have hBl := hz.2.2.2.1
  simp only at t0 v0 t1 v1 t2 v2 l0 p0 l1 p1 l2 p2 hBl
  have h' := id h
  obtain ⟨w1, w2, ⟨gm, cm, fm, w3⟩, w4, w5, w6, w7, w8, ⟨y1, y2, ⟨Q3, y3⟩, ⟨Q4, y4⟩, ⟨u5, y5⟩, ⟨u6, y6⟩⟩, w10, w11⟩ := h
  simp only at w3 w5 w6 w7 w8 w11
  have m0 := w8 0 (by omega)
  have m1 := w8 1 (by omega)
  have m2 := w8 2 (by omega)
  -- the start
  have z := w3.1
  unfold MDC at z
  obtain ⟨σ1, a1, a2, a3⟩ := Ps_clear (F := F) y3
  have hc1 := w3.fo a3 (by omega)
  have z1 := hc1.1
  unfold MDC at z1
  obtain ⟨σ2, b1, b2, b3⟩ := Ro_clear (F := F) (y5.fo a3 (by omega))
  have hc2 := hc1.fo b3 (by omega)
  obtain ⟨σ3, c1, c2, c3⟩ := Md_fm hc2 0
  have z3 := c2.1
  unfold MDC at z3
  have W3 : Fo (fun a => (145 ≤ a ∧ a ≤ 150) ∨ a = 162 ∨ a = 95) g σ g σ3 := (a3.mono fun a ha => by omega).trans ((b3.mono fun a ha => by omega).trans (c3.mono fun a ha => by omega))
  have S3 := y1.fo W3 fun a ha => by omega
  obtain ⟨ff, e6⟩ := S3 166 .int 1700 rfl
  obtain ⟨σ4, d1, d2, d3⟩ := e6.si (v := 0) (i := 0) (by omega) (by omega) (by omega)
  have S4 : SCA g σ4 := S3.w d3 rfl d2
  have W4 : Fo (fun a => (145 ≤ a ∧ a ≤ 150) ∨ a = 162 ∨ a = 95 ∨ a = 166) g σ g σ4 := (W3.mono fun a ha => by omega).trans (d3.mono fun a ha => by omega)
  obtain ⟨f7, e7⟩ := S4 167 .int 1700 rfl
  obtain ⟨f8, e8⟩ := S4 168 .int 1700 rfl
  obtain ⟨f9, e9⟩ := S4 169 .int 1700 rfl
  have D4 : DCI g σ4 th (nI as.length) B (P 0) (P 1) (P 2) [] := by
    refine ⟨⟨w1.fo W4, w2.fo w1 W4 fun a ha => by omega, w5.fo W4 (by omega) (by omega), m0.fo W4 fun a _ _ => by omega, m1.fo W4 fun a _ _ => by omega, m2.fo W4 fun a _ _ => by omega, S4, y2.fo W4 fun a _ _ => by omega, u6, y6.fo W4 (by omega)⟩, ⟨⟨_, _, c2.fo d3 (by omega)⟩, ((b2.fo c3 (by omega)).fo d3 (by omega)), ⟨_, d2, fun j hj => ?_⟩, Nat.zero_le _⟩, ((a2.fo b3 fun a _ _ => by omega).fo c3 fun a _ _ => by omega).fo d3 fun a _ _ => by omega, ⟨f7, e7, fun k hk => absurd hk (by simp)⟩, ⟨f8, e8, fun k hk => absurd hk (by simp)⟩, ⟨f9, e9, fun k hk => absurd hk (by simp)⟩⟩
    have : j = 0 := by simpa [frT] using hj
    subst this
    rw [uf_same]; rfl
  have z4 : ∃ gm cm fm, Ce g σ4 95 (MDC th (nI B.length) (nI as.length) gm cm fm) := ⟨_, _, _, c2.fo d3 (by omega)⟩
  obtain ⟨gm4, cm4, fm4, hc4⟩ := z4
  have z4 := hc4.1
  unfold MDC at z4
  -- the pairs
  obtain ⟨g5, σ5, r1, r2, r3, r4⟩ := Md_rnm (F := F) (Q := P 1) (mq := 103) (ra := 157) D4 D4.1.2.2.2.2.1 (by omega) (Or.inl rfl) l0 l1 v0 v1 hBl hF
  obtain ⟨⟨gm5, cm5, hc5⟩, -⟩ := id r2.2.1
  have z5 := hc5.1
  unfold MDC at z5
  obtain ⟨g6, σ6, s1, s2, s3, s4⟩ := Md_rnm (F := F) (Q := P 2) (mq := 109) (ra := 158) r2 r2.1.2.2.2.2.2.1 (by omega) (Or.inr rfl) l0 l2 v0 v2 hBl hF
  -- none is done
  obtain ⟨od, o1⟩ := s2.1.2.2.2.2.2.2.1 160 .boolean 1700 rfl
  obtain ⟨σ7, od7, x1, x2, x3, x4, x5⟩ := Md_l68 (F := F) l1 (kk := fun τ => f_Md_mergeMaps_j92 F 95 τ) F 0 σ6 od s2 o1 (fun k hk => by omega) (by omega) (by omega)
  obtain ⟨td, o2⟩ := x2.1.2.2.2.2.2.2.1 161 .boolean 1700 rfl
  obtain ⟨σ8, td8, k1, k2, k3, k4, k5⟩ := Md_l94 (F := F) l2 (kk := fun τ => f_Md_mergeMaps_j118 F 95 τ) F 0 σ7 td x2 o2 (fun k hk => by omega) (by omega) (by omega)
  rw [nI_0] at x1 k1
  have M8 : MLI g6 σ8 th (nI as.length) B (P 0) (P 1) (P 2) gs0 0 0 := ⟨k2, ((r3.fo s4 (by unfold RNT; omega)).fo x5 (by omega)).fo k5 (by omega), (s3.fo x5 (by omega)).fo k5 (by omega), ⟨od7, x3.fo k5 (by omega), fun k _ hk => by rw [x4 k hk]; rfl⟩, ⟨td8, k3, fun k _ hk => by rw [k4 k hk]; rfl⟩⟩
  have W8 : Fo MPT g σ g6 σ8 := ((W4.mono fun a ha => by unfold MPT; omega).trans (r4.mono fun a ha => by unfold RNT at ha; unfold MPT; omega)).trans ((s4.mono fun a ha => by unfold RNT at ha; unfold MPT; omega).trans ((x5.mono fun a ha => by unfold MPT; omega).trans (k5.mono fun a ha => by unfold MPT; omega)))
  have start : f_Md_mergeMaps F σ 95 = f_Md_mergeMaps_j118 F 95 σ8 := by
    unfold f_Md_mergeMaps
    have d1' : am_sI σ3 166 0 0 = some σ4 := d1
    rw [am_ck_of z, gA_of z (k := 23) rfl, Option.bind_some, a1, Option.bind_some, gA_of z1 (k := 30) rfl, Option.bind_some, b1, Option.bind_some, c1, Option.bind_some, gA_of z3 (k := 32) rfl, Option.bind_some, d1', Option.bind_some, gA_of z4 (k := 20) rfl, Option.bind_some, gA_of z4 (k := 21) rfl, Option.bind_some, gA_of z4 (k := 25) rfl, Option.bind_some, gA_of z4 (k := 27) rfl, Option.bind_some, r1, Option.bind_some, gA_of z5 (k := 20) rfl, Option.bind_some, gA_of z5 (k := 22) rfl, Option.bind_some, gA_of z5 (k := 26) rfl, Option.bind_some, gA_of z5 (k := 27) rfl, Option.bind_some, s1, Option.bind_some, x1]
    unfold f_Md_mergeMaps_j92
    rw [k1]
  have hMQ : ∀ a, MPT a → MQT a := fun a ha => by unfold MPT at ha; unfold MQT; omega
  obtain ⟨q1, q2⟩ := rqs_og B (P 0) (P 1) (P 2) (grps B (P 0) (P 1) (P 2))
  have hgr := Md_groups (F := F) v0 v1 v2 t0 t1 t2 l0 l1 l2 hBl (by omega) hF M8
  have hm : mrgM B (P 0) (P 1) (P 2) = match plcs [] (ogP (ogs B (P 0) (P 1) (P 2) (grps B (P 0) (P 1) (P 2)))) with
      | none => none
      | some Pl => if sl (frT (ogs B (P 0) (P 1) (P 2) (grps B (P 0) (P 1) (P 2)))) ≤ 65536 then some (Pl, (ogs B (P 0) (P 1) (P 2) (grps B (P 0) (P 1) (P 2))).map (orc (P 0) (P 1) (P 2))) else none := by
    unfold mrgM
    rw [q1, q2, frS_frT]
    rfl
  rw [hm, start]
  have eO : ogs B (P 0) (P 1) (P 2) (gph2 B (P 0) (P 1) (P 2) (P 2).length).1 = ogs B (P 0) (P 1) (P 2) (grps B (P 0) (P 1) (P 2)) := rfl
  rcases hgr with ⟨n1, g9, σ9, O9, n2, n3, n4⟩ | ⟨g9, σ9, n2, n3, n4⟩
  · rw [eO] at n1
    have W9 := W8.trans n4
    have R9 := y4.fo W9 fun a _ _ => by unfold MPT; omega
    refine ⟨g9, σ9, [], n3.mdi h' ⟨_, R9⟩ (W9.mono hMQ), W9.mono hMQ, ?_⟩
    cases plcs [] (ogP (ogs B (P 0) (P 1) (P 2) (grps B (P 0) (P 1) (P 2)))) with
    | none => exact n2
    | some Pl =>
      simp only
      rw [if_neg (by omega)]
      exact n2
  · have hD9 := n3.1
    rw [eO] at hD9
    have W9 := W8.trans n4
    have R9 := y4.fo W9 fun a _ _ => by unfold MPT; omega
    obtain ⟨hE9, hFI9, hOI9⟩ := id hD9
    obtain ⟨⟨gm9, cm9, hc9⟩, -, -, hs9⟩ := id hFI9
    have hlen := gph2_len B (P 0) (P 1) (P 2) (P 2).length
    have hol := ogs_len B (P 0) (P 1) (P 2) (grps B (P 0) (P 1) (P 2))
    have hsum := (gph2_ni (B := B) (P0 := P 0) (P1 := P 1) (P2 := P 2) t0 (P 2).length).sum (B := B) (P0 := P 0) (P1 := P 1) (P2 := P 2) grps_ok
    have hgl : (grps B (P 0) (P 1) (P 2)).length = (gph2 B (P 0) (P 1) (P 2) (P 2).length).1.length := rfl
    rw [eO] at hsum
    obtain ⟨g10, σ10, I, j1, j2, j3⟩ := Md_j326 (F := F) (ogs_B v0 v1 v2 t1 t2 grps_ok) (by omega) (by omega) hF hc9 hOI9 ⟨_, R9⟩
    have E10 : EV g10 σ10 B (P 0) (P 1) (P 2) := by
      obtain ⟨-, -, -, -, -, -, i7, i8, t9, i9⟩ := id hE9
      exact hE9.fo j2 (fun a ha => by omega) (i7.fo j2 fun a ha => by omega) (i8.fo j2 fun a _ _ => by omega) ⟨t9, i9.fo j2 (by omega)⟩
    have D10 : DCI g10 σ10 th (nI as.length) B (P 0) (P 1) (P 2) (ogs B (P 0) (P 1) (P 2) (grps B (P 0) (P 1) (P 2))) := ⟨E10, hFI9.fo j2 fun a ha => by omega, hOI9.fo j2 fun a ha => by omega⟩
    have W10 : Fo MQT g σ g10 σ10 := (W9.mono hMQ).trans (j2.mono fun a ha => by unfold MQT; omega)
    refine ⟨g10, σ10, I, D10.mdi h' j1 W10, W10, ?_⟩
    rw [n2]
    simp only
    cases hp : plcs [] (ogP (ogs B (P 0) (P 1) (P 2) (grps B (P 0) (P 1) (P 2)))) with
    | none => rw [hp] at j3; exact j3
    | some Pl =>
      rw [hp] at j3
      obtain ⟨i1, i2, i3, i4, i5⟩ := j3
      simp only
      rw [if_pos hs9]
      have hPl := (plcs_PLI hp PLI.nil (ogB_mem (ogs_B v0 v1 v2 t1 t2 grps_ok)) fiB_nil)
      have h400 := (fit_facts hPl.1.1 hPl.2).1
      have : Pl.length = I.length := by rw [i5]; simp [iP]
      exact ⟨i1, D10, i2, i3, i4, by omega, by rw [i5]⟩
end MMT
