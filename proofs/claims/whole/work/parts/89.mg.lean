/-! ===== L3: Merging: all of it ===== -/
theorem gadd_ok {P0 P1 P2 : PL} {s : GSt} {g : Gp} (h : ∀ x ∈ s.1, gOK P0 P1 P2 x) (hg : gOK P0 P1 P2 g) : ∀ x ∈ (gadd s g).1, gOK P0 P1 P2 x := by
  intro x hx
  simp only [gadd, List.mem_append, List.mem_singleton] at hx
  rcases hx with z | z
  · exact h x z
  · subst z; exact hg
theorem gph0_ok {B : List (List Int32)} {P0 P1 P2 : PL} : ∀ n, n ≤ P0.length → ∀ x ∈ (gph0 B P0 P1 P2 n).1, gOK P0 P1 P2 x
  | 0, _ => fun x hx => absurd hx (by simp [gph0, gs0])
  | n + 1, h => by
    have ih := gph0_ok (B := B) (P0 := P0) (P1 := P1) (P2 := P2) n (by omega)
    unfold gph0 at *
    rw [foldl_r']
    exact gadd_ok ih ⟨fun p hp => by cases hp; omega, fun a ha => prt_ok ha, fun b hb => prt_ok hb⟩
theorem gph1_ok {B : List (List Int32)} {P0 P1 P2 : PL} : ∀ n, n ≤ P1.length → ∀ x ∈ (gph1 B P0 P1 P2 n).1, gOK P0 P1 P2 x
  | 0, _ => gph0_ok _ (Nat.le_refl _)
  | n + 1, h => by
    have ih := gph1_ok (B := B) (P0 := P0) (P1 := P1) (P2 := P2) n (by omega)
    unfold gph1 at *
    rw [foldl_r']
    generalize List.foldl _ _ (List.range' 0 n) = s at *
    unfold gst1
    split
    · exact ih
    · refine gadd_ok ih ⟨fun p hp => (by cases hp), fun a ha => (by cases ha; omega), fun b hb => ?_⟩
      simp only at hb
      unfold gth at hb
      split at hb
      · rename_i j hj
        split at hb
        · cases hb
        · cases hb; exact fnd_lt hj
      · cases hb
theorem gph2_ok {B : List (List Int32)} {P0 P1 P2 : PL} : ∀ n, n ≤ P2.length → ∀ x ∈ (gph2 B P0 P1 P2 n).1, gOK P0 P1 P2 x
  | 0, _ => gph1_ok _ (Nat.le_refl _)
  | n + 1, h => by
    have ih := gph2_ok (B := B) (P0 := P0) (P1 := P1) (P2 := P2) n (by omega)
    unfold gph2 at *
    rw [foldl_r']
    generalize List.foldl _ _ (List.range' 0 n) = s at *
    unfold gst2
    split
    · exact ih
    · exact gadd_ok ih ⟨fun p hp => (by cases hp), fun a ha => (by cases ha), fun b hb => (by cases hb; omega)⟩
theorem grps_ok {B : List (List Int32)} {P0 P1 P2 : PL} : ∀ x ∈ grps B P0 P1 P2, gOK P0 P1 P2 x := gph2_ok _ (Nat.le_refl _)
theorem grec_ok {B : List (List Int32)} {P0 P1 P2 : PL} {g : Gp} {x : List Int32 × Bool} (v0 : VB B P0) (v1 : VB B P1) (v2 : VB B P2) (t1 : Srt P1) (t2 : Srt P2) (hg : gOK P0 P1 P2 g) (h : grec P0 P1 P2 g = some x) : isB x.1 ∧ srOK B (gsrc P0 P1 P2 g) := by
  obtain ⟨p, a, b⟩ := g
  obtain ⟨h0, h1, h2⟩ := hg
  have b1 : ∀ k, a = some k → isB (pth P1 k) := fun k hk => by rw [pth_of (h1 k hk)]; exact t1.1 _ _
  have b2 : ∀ k, b = some k → isB (pth P2 k) := fun k hk => by rw [pth_of (h2 k hk)]; exact t2.1 _ _
  have s0 : ∀ k, p.map (valN P0) = some k → k < B.length := fun k hk => by
    cases p with
    | none => cases hk
    | some i => cases hk; exact (v0 i (h0 i rfl)).1
  have s1 : ∀ k, a.map (valN P1) = some k → k < B.length := fun k hk => by
    cases a with
    | none => cases hk
    | some i => cases hk; exact (v1 i (h1 i rfl)).1
  have s2 : ∀ k, b.map (valN P2) = some k → k < B.length := fun k hk => by
    cases b with
    | none => cases hk
    | some i => cases hk; exact (v2 i (h2 i rfl)).1
  cases a with
  | none =>
    cases b with
    | none => cases h
    | some k =>
      simp only [grec] at h
      split at h
      · cases h
      · cases h; exact ⟨b2 k rfl, s0, s1, s2, Or.inr rfl⟩
  | some j =>
    cases b with
    | none =>
      simp only [grec] at h
      split at h
      · cases h
      · cases h; exact ⟨b1 j rfl, s0, s1, s2, Or.inl rfl⟩
    | some k =>
      simp only [grec] at h
      split at h
      · cases h; exact ⟨b1 j rfl, s0, s1, s2, Or.inl rfl⟩
      · split at h
        · cases h; exact ⟨b2 k rfl, s0, s1, s2, Or.inl rfl⟩
        · cases h; exact ⟨b1 j rfl, s0, s1, s2, Or.inl rfl⟩
theorem rqs_ok {B : List (List Int32)} {P0 P1 P2 : PL} {gs : List Gp} (v0 : VB B P0) (v1 : VB B P1) (v2 : VB B P2) (t1 : Srt P1) (t2 : Srt P2) (hg : ∀ g ∈ gs, gOK P0 P1 P2 g) : ∀ r ∈ rqs P0 P1 P2 gs, isB r.1 ∧ srOK B r.2.1 := by
  intro r hr
  unfold rqs at hr
  rw [List.mem_filterMap] at hr
  obtain ⟨g, hgm, hge⟩ := hr
  cases hc : grec P0 P1 P2 g with
  | none => rw [hc] at hge; cases hge
  | some x =>
    rw [hc] at hge
    cases hge
    exact grec_ok v0 v1 v2 t1 t2 (hg g hgm) hc
theorem rqs_cons {P0 P1 P2 : PL} {g : Gp} {gs : List Gp} : rqs P0 P1 P2 (g :: gs) = match grec P0 P1 P2 g with
    | none => rqs P0 P1 P2 gs
    | some x => (x.1, gsrc P0 P1 P2 g, x.2) :: rqs P0 P1 P2 gs := by
  unfold rqs
  rw [List.filterMap_cons]
  cases grec P0 P1 P2 g <;> rfl
section MM
variable {o p0 p1 p2 bl n lt sp F : Nat} {B : List (List Int32)} {P0 P1 P2 Pl : PL} {L : List Rc}
theorem Mg_l43 {kk : am_S → Option (Int32 × am_S)} {s : GSt} (hB5 : B.length ≤ 500) (h8 : 8 ≤ o) (hsp : o + 28 ≤ sp) (hp0 : p0 + 4 ≤ o) (hp1 : p1 + 4 ≤ o) (hp2 : p2 + 4 ≤ o) (v0 : VB B P0) (v1 : VB B P1) (v2 : VB B P2) (t0 : Srt P0) (t1 : Srt P1) (t2 : Srt P2) (hF : 8192 < F) (hg : ∀ g ∈ s.1, gOK P0 P1 P2 g) (hn : s.1.length ≤ 1200) : ∀ (m k : Nat) (σ : am_S) (Pl : PL) (L : List Rc), Pm σ p0 P0 → Pm σ p1 P1 → Pm σ p2 P2 → GrI σ o p0 p1 p2 bl lt sp s → Oc σ sp bl Pl L → Srt Pl → k ≤ s.1.length → s.1.length - k < m →
    match plcs Pl ((rqs P0 P1 P2 (s.1.drop k)).map fun r => r.1) with
    | none => ∃ σ' Pl' L', f_Mg_mergeMaps_l43 F o kk m (nI k) σ = some (-3, σ') ∧ Oc σ' sp bl Pl' L' ∧ Fr (OcS sp) σ σ'
    | some Pl' => ∃ σ', f_Mg_mergeMaps_l43 F o kk m (nI k) σ = kk σ' ∧ Oc σ' sp bl Pl' (L ++ (rqs P0 P1 P2 (s.1.drop k)).map fun r => rc0 r.2.1 r.2.2) ∧ Srt Pl' ∧ Fr (OcS sp) σ σ' := by
  intro m
  induction m with
  | zero => intro k _ _ _ _ _ _ _ _ _ _ h; omega
  | succ m ih =>
    intro k σ Pl L hP0 hP1 hP2 hG hO hs hk hm
    obtain ⟨u1, u2, gp, ga, gb, h0, r1, r2, r3, r4, r5, r6, r7⟩ := id hG
    have h0' := h0
    unfold MgC at h0
    rw [f_Mg_mergeMaps_l43]
    simp (disch := first | omega | (simp only [List.length_cons, List.length_nil] <;> omega)) only [sx_ck, xk_s, sx_gI, sx_gA, xg_s, xi_s, xa_s, List.getElem?_cons_zero, List.getElem?_cons_succ, sx_lI, sx_lA, xl_s, xl_v, sx_pI, sx_pA, xp_s, List.set_cons_zero, List.set_cons_succ, sx_sI, sx_sB, sx_sZ, sx_sS, xs_s, sx_cp, xc_s, put_at, put_ne, new_at, new_ne, Option.bind_some, am_b2, sx_len, xn_s, h0]
    by_cases hc : s.1.length ≤ k
    · rw [if_pos (nI_le hc (by omega)), List.drop_of_length_le hc]
      simp only [rqs, List.filterMap_nil, List.map_nil, plcs, List.append_nil]
      exact ⟨σ, rfl, hO, hs, Fr.refl _ _⟩
    · have hk' : k < s.1.length := by omega
      rw [if_neg (nI_ge hk' (by omega)), List.drop_eq_getElem_cons hk', rqs_cons]
      obtain ⟨x1, x2, x3⟩ := r7 k hk'
      simp (disch := first | omega | (simp only [List.length_cons, List.length_nil] <;> omega)) only [sx_ck, xk_s, sx_gI, sx_gA, xg_s, xi_s, xa_s, List.getElem?_cons_zero, List.getElem?_cons_succ, sx_lI, sx_lA, xl_s, xl_v, sx_pI, sx_pA, xp_s, List.set_cons_zero, List.set_cons_succ, sx_sI, sx_sB, sx_sZ, sx_sS, xs_s, sx_cp, xc_s, put_at, put_ne, new_at, new_ne, Option.bind_some, am_b2, sx_len, xn_s, r3, r4, r5, x1, x2, x3, nI_1]
      have hgk := hg _ (List.getElem_mem hk')
      have hag := Mg_addGroup (F := F) (g := s.1[k]) hB5 (by omega) h0' (show ¬ OcS sp o by omega) hP0 hP1 hP2 v0 v1 v2 t0 t1 t2 (by omega) (by omega) hF hgk hO hs
      cases hc : grec P0 P1 P2 s.1[k] with
      | none =>
        simp only [hc] at hag
        rw [hag]
        simp only [Option.bind_some]
        rw [if_neg (by decide)]
        exact ih (k + 1) σ Pl L hP0 hP1 hP2 hG hO hs (by omega) (by omega)
      | some x =>
        simp only [hc] at hag
        simp only [List.map_cons, plcs]
        have hbx := (grec_ok v0 v1 v2 t1 t2 hgk hc).1
        have hlen := hO.pm.2
        unfold AgR at hag
        by_cases ha : adb Pl x.1 = true
        · rw [if_pos ha] at hag ⊢
          obtain ⟨σ1, e1, e2, e3⟩ := hag
          rw [e1]
          simp only [Option.bind_some]
          rw [if_neg (by decide)]
          rw [hlen] at e2
          have := ih (k + 1) σ1 _ _ (hP0.fr e3 fun a _ _ z => by omega) (hP1.fr e3 fun a _ _ z => by omega) (hP2.fr e3 fun a _ _ z => by omega) (hG.fr e3 fun a _ _ z => by omega) e2 (hs.asg hbx _) (by omega) (by omega)
          cases hpl : plcs (asgP Pl x.1 (nI (List.length Pl))) ((rqs P0 P1 P2 (s.1.drop (k + 1))).map fun r => r.1) with
          | none =>
            simp only [hpl] at this ⊢
            obtain ⟨σ', Pl', L', q1, q2, q3⟩ := this
            exact ⟨σ', Pl', L', q1, q2, e3.trans q3⟩
          | some Pl' =>
            simp only [hpl] at this ⊢
            obtain ⟨σ', q1, q2, q3, q4⟩ := this
            refine ⟨σ', q1, ?_, q3, e3.trans q4⟩
            rw [List.append_assoc] at q2
            exact q2
        · rw [if_neg ha] at hag ⊢
          obtain ⟨σ1, e1, e2, e3⟩ := hag
          rw [e1]
          simp only [Option.bind_some]
          rw [if_pos trivial]
          exact ⟨σ1, Pl, L, rfl, e2, e3⟩
theorem frS_rc0 (rs : List Rq) : frS (rs.map fun r => rc0 r.2.1 r.2.2) = 0 := by
  induction rs with
  | nil => rfl
  | cons r rs ih =>
    unfold frS at *
    rw [List.map_cons, List.map_cons, List.sum_cons, ih]
    rfl
def mixL (B : List (List Int32)) (rs : List Rq) (k : Nat) : List Rc := ((rs.take k).map fun r => rc1 B r.2.1 r.2.2) ++ ((rs.drop k).map fun r => rc0 r.2.1 r.2.2)
theorem mixL_len (rs : List Rq) (k : Nat) : (mixL B rs k).length = rs.length := by
  unfold mixL
  rw [List.length_append, List.length_map, List.length_map, ← List.length_append, List.take_append_drop]
theorem mixL_get {rs : List Rq} {k : Nat} (h : k < rs.length) : (mixL B rs k)[k]'(by rw [mixL_len]; exact h) = rc0 rs[k].2.1 rs[k].2.2 := by
  unfold mixL
  have e : ((rs.take k).map fun r => rc1 B r.2.1 r.2.2).length = k := by simp; omega
  rw [List.getElem_append_right (by omega)]
  simp only [e, Nat.sub_self, List.getElem_map, List.getElem_drop, Nat.add_zero]
theorem mixL_set {rs : List Rq} {k : Nat} (h : k < rs.length) : (mixL B rs k).set k (rc1 B rs[k].2.1 rs[k].2.2) = mixL B rs (k + 1) := by
  unfold mixL
  have e : ((rs.take k).map fun r => rc1 B r.2.1 r.2.2).length = k := by simp; omega
  rw [List.set_append_right _ _ (by omega), e, Nat.sub_self, List.drop_eq_getElem_cons h, List.map_cons, List.set_cons_zero, List.take_succ_eq_append_getElem h, List.map_append, List.append_assoc]
  rfl
theorem mixL_fr (rs : List Rq) (k : Nat) : frS (mixL B rs k) ≤ frS (rs.map fun r => rc1 B r.2.1 r.2.2) := by
  unfold mixL
  rw [frS_app, frS_rc0, Nat.add_zero]
  conv => rhs; rw [← List.take_append_drop k rs, List.map_append, frS_app]
  omega
theorem Mg_l95 {kk : am_S → Option (Int32 × am_S)} {rs : List Rq} (hb8 : 8 ≤ bl) (hbo : bl + 13 ≤ o) (hsp : o + 28 ≤ sp) (hrs : ∀ r ∈ rs, srOK B r.2.1) (hF : 32768 < F) : ∀ (m k : Nat) (σ : am_S), Bl σ bl B → MkS σ → Tm σ (o + 20) bl → MgC σ o p0 p1 p2 bl n lt sp → Oc σ sp bl Pl (mixL B rs k) → k ≤ rs.length → rs.length - k < m →
    if frS (rs.map fun r => rc1 B r.2.1 r.2.2) ≤ 65536 then ∃ σ', f_Mg_mergeMaps_l95 F o (nI rs.length) kk m (nI k) σ = kk σ' ∧ Oc σ' sp bl Pl (rs.map fun r => rc1 B r.2.1 r.2.2) ∧ Tm σ' (o + 20) bl ∧ Fr (GtS o sp) σ σ'
    else ∃ σ' L', f_Mg_mergeMaps_l95 F o (nI rs.length) kk m (nI k) σ = some (-3, σ') ∧ Oc σ' sp bl Pl L' ∧ Tm σ' (o + 20) bl ∧ Fr (GtS o sp) σ σ' := by
  intro m
  induction m with
  | zero => intro k _ _ _ _ _ _ _ h; omega
  | succ m ih =>
    intro k σ hB hM hT ho hO hk hm
    have hl := hO.len
    rw [mixL_len] at hl
    rw [f_Mg_mergeMaps_l95]
    by_cases hc : rs.length ≤ k
    · have e : mixL B rs k = rs.map fun r => rc1 B r.2.1 r.2.2 := by
        unfold mixL
        rw [List.take_of_length_le hc, List.drop_of_length_le hc, List.map_nil, List.append_nil]
      rw [e] at hO
      have hfs : frS (rs.map fun r => rc1 B r.2.1 r.2.2) ≤ 65536 := by
        obtain ⟨un, so, tb, ts, tl, mb, -, -, -, -, q⟩ := hO
        exact q
      rw [if_pos hfs, if_pos (nI_le hc (by omega))]
      exact ⟨σ, rfl, hO, hT, Fr.refl _ _⟩
    · have hk' : k < rs.length := by omega
      rw [if_neg (nI_ge hk' (by omega))]
      have hg := Mg_giveText (F := F) (r := k) (u := rs[k].2.2) (s := rs[k].2.1) hb8 hbo ho hsp hB hM hT hO (by rw [mixL_len]; exact hk') (hrs _ (List.getElem_mem hk')) (mixL_get hk') hF
      rw [mixL_set hk'] at hg
      have hmo := mixL_fr (B := B) rs (k + 1)
      by_cases hfs : frS (mixL B rs (k + 1)) ≤ 65536
      · rw [if_pos hfs] at hg
        obtain ⟨σ1, e1, e2, e3, e4⟩ := hg
        have := ih (k + 1) σ1 (hB.fr e4 fun a _ _ z => by omega) (hM.fr e4 fun a _ z => by omega) e3 (e4.at (by omega) ho) e2 (by omega) (by omega)
        rw [e1]
        simp only [am_b2, Option.bind_some]
        rw [if_neg (show ¬ (1 : Int32) = 0 by decide), nI_1]
        split at this
        · obtain ⟨σ', q1, q2, q3, q4⟩ := this
          rename_i hz
          rw [if_pos hz]
          exact ⟨σ', q1, q2, q3, e4.trans q4⟩
        · obtain ⟨σ', L', q1, q2, q3, q4⟩ := this
          rename_i hz
          rw [if_neg hz]
          exact ⟨σ', L', q1, q2, q3, e4.trans q4⟩
      · rw [if_neg hfs] at hg
        obtain ⟨σ1, L', e1, e2, e3, e4⟩ := hg
        rw [if_neg (by omega), e1]
        simp only [am_b2, Option.bind_some]
        rw [if_pos trivial]
        exact ⟨σ1, L', rfl, e2, e3, e4⟩
/-- a Merging, its OUTCOMES aside -/
def MgF (σ : am_S) (o p0 p1 p2 bl lt sp : Nat) : Prop := (∃ n, MgC σ o p0 p1 p2 bl n lt sp) ∧ (∃ u, σ.2.2 (o + 1) = some (cZ 400 u)) ∧ (∃ u, σ.2.2 (o + 2) = some (cZ 400 u)) ∧ (∃ u, σ.2.2 (o + 3) = some (cI 1200 u)) ∧ (∃ u, σ.2.2 (o + 4) = some (cI 1200 u)) ∧ (∃ u, σ.2.2 (o + 5) = some (cI 1200 u)) ∧ Rn σ (o + 6) bl ∧ Rn σ (o + 13) bl ∧ Tm σ (o + 20) bl ∧ (lt = o + 28 ∧ sp = o + 39 ∨ lt = o + 39 ∧ sp = o + 28)
theorem MgF.fr {σ σ1 : am_S} {S : Nat → Prop} (h : MgF σ o p0 p1 p2 bl lt sp) (hf : Fr S σ σ1) (hd : ∀ a, o ≤ a → a ≤ o + 27 → ¬ S a) : MgF σ1 o p0 p1 p2 bl lt sp := by
  obtain ⟨⟨n, h0⟩, ⟨w1, h1⟩, ⟨w2, h2⟩, ⟨w3, h3⟩, ⟨w4, h4⟩, ⟨w5, h5⟩, h6, h7, h8, h9⟩ := h
  exact ⟨⟨n, hf.at (hd _ (by omega) (by omega)) h0⟩, ⟨w1, hf.at (hd _ (by omega) (by omega)) h1⟩, ⟨w2, hf.at (hd _ (by omega) (by omega)) h2⟩, ⟨w3, hf.at (hd _ (by omega) (by omega)) h3⟩, ⟨w4, hf.at (hd _ (by omega) (by omega)) h4⟩, ⟨w5, hf.at (hd _ (by omega) (by omega)) h5⟩, h6.fr hf fun a _ _ => hd a (by omega) (by omega), h7.fr hf fun a _ _ => hd a (by omega) (by omega), h8.fr hf fun a _ _ => hd a (by omega) (by omega), h9⟩
theorem RnI.rn {σ : am_S} {sc : Nat → Int32} {P Q : PL} {st : PSt} (h : RnI σ o bl P Q sc st) : Rn σ o bl := by
  obtain ⟨ge, co, ct, pa, ps, hR, -⟩ := h
  exact ⟨ge, co, ct, sc, pa, ps, _, _, hR⟩
abbrev MgS (o bl : Nat) : Nat → Prop := fun a => (o ≤ a ∧ a ≤ o + 49) ∨ a = bl + 12
theorem Mg_merge {σ : am_S} {Pl0 : PL} {L0 : List Rc} (hb8 : 8 ≤ bl) (hbo : bl + 13 ≤ o) (b0 : bl + 13 ≤ p0) (b1 : bl + 13 ≤ p1) (b2 : bl + 13 ≤ p2) (hp0 : p0 + 4 ≤ o) (hp1 : p1 + 4 ≤ o) (hp2 : p2 + 4 ≤ o) (v0 : VB B P0) (v1 : VB B P1) (v2 : VB B P2) (t0 : Srt P0) (t1 : Srt P1) (t2 : Srt P2) (hF : 32768 < F)
    (hB : Bl σ bl B) (hW : Wz σ bl) (hM : MkS σ) (hP0 : Pm σ p0 P0) (hP1 : Pm σ p1 P1) (hP2 : Pm σ p2 P2) (h : MgF σ o p0 p1 p2 bl lt sp) (hO : Oc σ lt bl Pl0 L0) (hS : ∃ Pl L, Oc σ sp bl Pl L) :
    match mrgM B P0 P1 P2 with
    | none => ∃ σ', f_Mg_mergeMaps F σ o = some (-3, σ') ∧ MgF σ' o p0 p1 p2 bl lt sp ∧ Oc σ' lt bl Pl0 L0 ∧ (∃ Pl L, Oc σ' sp bl Pl L) ∧ Bl σ' bl B ∧ Wz σ' bl ∧ Fr (MgS o bl) σ σ'
    | some x => ∃ σ', f_Mg_mergeMaps F σ o = some (nI (uct x.2), σ') ∧ MgF σ' o p0 p1 p2 bl sp lt ∧ Oc σ' sp bl x.1 x.2 ∧ Srt x.1 ∧ (∃ Pl L, Oc σ' lt bl Pl L) ∧ Bl σ' bl B ∧ Wz σ' bl ∧ Fr (MgS o bl) σ σ' := by
  have l0 := hP0.lt
  have l1 := hP1.lt
  have l2 := hP2.lt
  have hB5 : B.length ≤ 500 := by
    obtain ⟨by_, st, ro, fl, lc, wt, ls, ll, lk, lh, lch, -, -, ⟨w, -⟩, -⟩ := hB
    exact w
  obtain ⟨⟨n, h0⟩, ⟨w1, h1⟩, ⟨w2, h2⟩, ⟨w3, h3⟩, ⟨w4, h4⟩, ⟨w5, h5⟩, h6, h7, h8, h9⟩ := h
  obtain ⟨Ps, Ls, hS⟩ := hS
  have hd : (sp = o + 28 ∨ sp = o + 39) ∧ (lt = o + 28 ∨ lt = o + 39) ∧ (lt + 11 ≤ sp ∨ sp + 11 ≤ lt) := by omega
  -- the two searches
  obtain ⟨σ1, sc1, a1, a2, a3, a4, a5⟩ := Rn_search (F := F) h6 hB hW hP0 hP1 t0 t1 v0 v1 hb8 (by omega) b0 b1 (by omega) (by omega) hF
  have Q0 := hP0.fr a5 fun a _ _ z => by omega
  have Q1 := hP1.fr a5 fun a _ _ z => by omega
  have Q2 := hP2.fr a5 fun a _ _ z => by omega
  obtain ⟨σ2, sc2, c1, c2, c3, c4, c5⟩ := Rn_search (F := F) (h7.fr a5 fun a _ _ z => by omega) a3 a4 Q0 Q2 t0 t2 v0 v2 hb8 (by omega) b0 b2 (by omega) (by omega) hF
  have W2 : Fr (MgS o bl) σ σ2 := (a5.mono fun a z => by omega).trans (c5.mono fun a z => by omega)
  have R0 := Q0.fr c5 fun a _ _ z => by omega
  have R1 := Q1.fr c5 fun a _ _ z => by omega
  have R2 := Q2.fr c5 fun a _ _ z => by omega
  have A2 := a2.fr c5 fun a _ _ z => by omega
  have two : ∀ {a : Nat} {x : Option am_C}, (a ≤ o + 5 ∨ o + 20 ≤ a) → o ≤ a → σ.2.2 a = x → σ2.2.2 a = x := fun ha hb hx => c5.at (by omega) (a5.at (by omega) hx)
  have k0 : MgC σ2 o p0 p1 p2 bl n lt sp := two (by omega) (by omega) h0
  have k0' : MgC σ1 o p0 p1 p2 bl n lt sp := a5.at (by omega) h0
  have Tm2 : Tm σ2 (o + 20) bl := (h8.fr a5 fun a _ _ z => by omega).fr c5 fun a _ _ z => by omega
  have Ol2 : Oc σ2 lt bl Pl0 L0 := (hO.fr a5 fun a _ _ z => by omega).fr c5 fun a _ _ z => by omega
  have Os2 : Oc σ2 sp bl Ps Ls := (hS.fr a5 fun a _ _ z => by omega).fr c5 fun a _ _ z => by omega
  obtain ⟨σ3, d1, d2, d3⟩ := Mg_listGroups (F := F) (B := B) (by omega) hp0 hp1 hp2 t1 t2 (by omega) R0 R1 R2 A2 c2 k0 (two (by omega) (by omega) h1) (two (by omega) (by omega) h2) (two (by omega) (by omega) h3) (two (by omega) (by omega) h4) (two (by omega) (by omega) h5)
  have S0 := R0.fr d3 fun a _ _ z => by omega
  have S1 := R1.fr d3 fun a _ _ z => by omega
  have S2 := R2.fr d3 fun a _ _ z => by omega
  have B3 := c3.fr d3 fun a _ _ z => by omega
  have Wz3 := c4.fr d3 fun z => by omega
  have W3 : Fr (MgS o bl) σ σ3 := W2.trans (d3.mono fun a z => Or.inl ⟨by omega, by omega⟩)
  have Os3 := Os2.fr d3 fun a _ _ z => by omega
  have Ol3 := Ol2.fr d3 fun a _ _ z => by omega
  have Tm3 := Tm2.fr d3 fun a _ _ z => by omega
  have RA3 := A2.rn.fr d3 fun a _ _ z => by omega
  have RB3 := c2.rn.fr d3 fun a _ _ z => by omega
  obtain ⟨σ4, e1, e2, e3⟩ := Oc_clear (F := F) Os3 (by omega)
  have W4 : Fr (MgS o bl) σ σ4 := W3.trans (e3.mono fun a z => by omega)
  have G4 := d2.fr e3 fun a _ _ z => by omega
  obtain ⟨u1, u2, gp, ga, gb, m0, -⟩ := id d2
  have hl2 := gph2_len B P0 P1 P2 P2.length
  have hgr := Mg_l43 (F := F) (kk := fun τ => f_Mg_mergeMaps_j85 F o τ) (s := gph2 B P0 P1 P2 P2.length) hB5 (by omega) (show o + 28 ≤ sp by omega) hp0 hp1 hp2 v0 v1 v2 t0 t1 t2 (by omega) grps_ok (by omega) F 0 σ4 [] [] (S0.fr e3 fun a _ _ z => by omega) (S1.fr e3 fun a _ _ z => by omega) (S2.fr e3 fun a _ _ z => by omega) G4 e2 Srt.nil (by omega) (by omega)
  rw [List.drop_zero] at hgr
  have egr : (gph2 B P0 P1 P2 P2.length).1 = grps B P0 P1 P2 := rfl
  rw [egr] at hgr
  have start : f_Mg_mergeMaps F σ o = f_Mg_mergeMaps_l43 F o (fun τ => f_Mg_mergeMaps_j85 F o τ) F (nI 0) σ4 := by
    unfold MgC at h0 k0' m0
    unfold f_Mg_mergeMaps
    rw [am_ck_of h0, gA_of h0 (by rfl), Option.bind_some, gA_of h0 (by rfl), Option.bind_some, gA_of h0 (by rfl), Option.bind_some, a1, Option.bind_some, gA_of k0' (by rfl), Option.bind_some, gA_of k0' (by rfl), Option.bind_some, gA_of k0' (by rfl), Option.bind_some, c1, Option.bind_some, d1, Option.bind_some, gA_of m0 (by rfl), Option.bind_some, e1, Option.bind_some]
    rfl
  have restF : ∀ τ : am_S, Fr (GtS o sp) σ4 τ → Tm τ (o + 20) bl → ∀ l s, MgC τ o p0 p1 p2 bl (gph2 B P0 P1 P2 P2.length).1.length l s → (l = o + 28 ∧ s = o + 39 ∨ l = o + 39 ∧ s = o + 28) → MgF τ o p0 p1 p2 bl l s := by
    intro τ hf hT l s hm hls
    obtain ⟨y1, y2, y3, y4, y5, z0, z1, z2, z3, z4, z5, -⟩ := G4
    exact ⟨⟨_, hm⟩, ⟨_, hf.at (by omega) z1⟩, ⟨_, hf.at (by omega) z2⟩, ⟨_, hf.at (by omega) z3⟩, ⟨_, hf.at (by omega) z4⟩, ⟨_, hf.at (by omega) z5⟩, (RA3.fr e3 fun a _ _ z => by omega).fr hf fun a _ _ z => by omega, (RB3.fr e3 fun a _ _ z => by omega).fr hf fun a _ _ z => by omega, hT, hls⟩
  have Ol4 := Ol3.fr e3 fun a _ _ z => by omega
  have B4 := B3.fr e3 fun a _ _ z => by omega
  have Wz4 := Wz3.fr e3 fun z => by omega
  have Tm4 := Tm3.fr e3 fun a _ _ z => by omega
  have m4 : MgC σ4 o p0 p1 p2 bl (gph2 B P0 P1 P2 P2.length).1.length lt sp := e3.at (by omega) m0
  unfold mrgM
  cases hpl : plcs [] ((rqs P0 P1 P2 (grps B P0 P1 P2)).map fun r => r.1) with
  | none =>
    simp only [hpl] at hgr ⊢
    obtain ⟨σ5, Pl', L', f1, f2, f3⟩ := hgr
    have f3' : Fr (GtS o sp) σ4 σ5 := f3.mono fun a z => Or.inl z
    refine ⟨σ5, by rw [start]; exact f1, restF σ5 f3' (Tm4.fr f3 fun a _ _ z => by omega) lt sp (f3.at (by omega) m4) (by omega), Ol4.fr f3 fun a _ _ z => by omega, ⟨Pl', L', f2⟩, B4.fr f3 fun a _ _ z => by omega, Wz4.fr f3 fun z => by omega, W4.trans (f3.mono fun a z => by omega)⟩
  | some Pl' =>
    simp only [hpl] at hgr ⊢
    obtain ⟨σ5, f1, f2, f3, f4⟩ := hgr
    rw [List.nil_append] at f2
    have rsok : ∀ r ∈ rqs P0 P1 P2 (grps B P0 P1 P2), srOK B r.2.1 := fun r hr => (rqs_ok v0 v1 v2 t1 t2 grps_ok r hr).2
    generalize hrs : rqs P0 P1 P2 (grps B P0 P1 P2) = rs at *
    have hlen := f2.pm.2
    rw [List.length_map] at hlen
    have m5 : MgC σ5 o p0 p1 p2 bl (gph2 B P0 P1 P2 P2.length).1.length lt sp := f4.at (by omega) m4
    have f4' : Fr (GtS o sp) σ4 σ5 := f4.mono fun a z => Or.inl z
    have W5 : Fr (MgS o bl) σ σ5 := W4.trans (f4.mono fun a z => by omega)
    have mix0 : mixL B rs 0 = rs.map fun r => rc0 r.2.1 r.2.2 := by simp [mixL]
    have hgt := Mg_l95 (F := F) (kk := fun τ => f_Mg_mergeMaps_j117 F o τ) (Pl := Pl') (rs := rs) hb8 hbo (show o + 28 ≤ sp by omega) rsok hF F 0 σ5 (B4.fr f4 fun a _ _ z => by omega) (hM.fr W5 fun a _ z => by omega) (Tm4.fr f4 fun a _ _ z => by omega) m5 (by rw [mix0]; exact f2) (by omega) (by have := f2.len; rw [List.length_map] at this; omega)
    have hsz := Oc_size (F := F) f2
    have step : f_Mg_mergeMaps F σ o = f_Mg_mergeMaps_l95 F o (nI rs.length) (fun τ => f_Mg_mergeMaps_j117 F o τ) F (nI 0) σ5 := by
      rw [start, f1]
      unfold MgC at m5
      unfold f_Mg_mergeMaps_j85
      rw [gA_of m5 (by rfl), Option.bind_some, hsz, Option.bind_some, hlen]
      rfl
    by_cases hfs : frS (rs.map fun r => rc1 B r.2.1 r.2.2) ≤ 65536
    · rw [if_pos hfs] at hgt
      simp only [if_pos hfs]
      obtain ⟨σ6, g1, g2, g3, g4⟩ := hgt
      have m6 : MgC σ6 o p0 p1 p2 bl (gph2 B P0 P1 P2 P2.length).1.length lt sp := g4.at (by omega) m5
      have m6' := m6
      unfold MgC at m6
      have step2 : f_Mg_mergeMaps_j117 F o σ6 = some (nI (uct (rs.map fun r => rc1 B r.2.1 r.2.2)), am_put (am_put σ6 o (cO 6 [.ref p0, .ref p1, .ref p2, .ref bl, .ref (o + 6), .ref (o + 13), .ref (o + 1), .ref (o + 2), .ref (o + 3), .ref (o + 4), .ref (o + 5), .ref (o + 20), .int (nI (gph2 B P0 P1 P2 P2.length).1.length), .ref sp, .ref sp])) o (cO 6 [.ref p0, .ref p1, .ref p2, .ref bl, .ref (o + 6), .ref (o + 13), .ref (o + 1), .ref (o + 2), .ref (o + 3), .ref (o + 4), .ref (o + 5), .ref (o + 20), .int (nI (gph2 B P0 P1 P2 P2.length).1.length), .ref sp, .ref lt])) := by
        unfold f_Mg_mergeMaps_j117
        simp (disch := first | omega | (simp only [List.length_cons, List.length_nil] <;> omega)) only [sx_ck, xk_s, sx_gI, sx_gA, xg_s, xi_s, xa_s, List.getElem?_cons_zero, List.getElem?_cons_succ, sx_lI, sx_lA, xl_s, xl_v, sx_pI, sx_pA, xp_s, List.set_cons_zero, List.set_cons_succ, sx_sI, sx_sB, sx_sZ, sx_sS, xs_s, sx_cp, xc_s, put_at, put_ne, new_at, new_ne, Option.bind_some, am_b2, sx_len, xn_s, m6]
        rw [Oc_uc (g2.fr (((Fr.refl (fun a => a = o) _).p rfl).p rfl) fun a _ _ z => by omega)]
        rfl
      generalize hτ : am_put _ o _ = τ at step2
      have hf6 : Fr (fun a => a = o) σ6 τ := hτ ▸ ((Fr.refl (fun a => a = o) _).p rfl).p rfl
      have hf6' : Fr (GtS o sp) σ4 σ6 := f4'.trans g4
      have mt : MgC τ o p0 p1 p2 bl (gph2 B P0 P1 P2 P2.length).1.length sp lt := at_top hτ
      have base := restF σ6 hf6' g3 lt sp m6' (by omega)
      obtain ⟨-, ⟨v1', i1⟩, ⟨v2', i2⟩, ⟨v3', i3⟩, ⟨v4', i4⟩, ⟨v5', i5⟩, i6, i7, i8, i9⟩ := base
      refine ⟨τ, by rw [step, g1]; exact step2, ⟨⟨_, mt⟩, ⟨_, hf6.at (by omega) i1⟩, ⟨_, hf6.at (by omega) i2⟩, ⟨_, hf6.at (by omega) i3⟩, ⟨_, hf6.at (by omega) i4⟩, ⟨_, hf6.at (by omega) i5⟩, i6.fr hf6 fun a _ _ z => by omega, i7.fr hf6 fun a _ _ z => by omega, i8.fr hf6 fun a _ _ z => by omega, by omega⟩, g2.fr hf6 fun a _ _ z => by omega, f3, ⟨Pl0, L0, ((Ol4.fr f4 fun a _ _ z => by omega).fr g4 fun a _ _ z => by omega).fr hf6 fun a _ _ z => by omega⟩, ((B4.fr f4 fun a _ _ z => by omega).fr g4 fun a _ _ z => by omega).fr hf6 fun a _ _ z => by omega, ((Wz4.fr f4 fun z => by omega).fr g4 fun z => by omega).fr hf6 fun z => by omega, W5.trans ((g4.mono fun a z => by omega).trans (hf6.mono fun a z => by omega))⟩
    · rw [if_neg hfs] at hgt
      simp only [if_neg hfs]
      obtain ⟨σ6, L', g1, g2, g3, g4⟩ := hgt
      have hf6' : Fr (GtS o sp) σ4 σ6 := f4'.trans g4
      exact ⟨σ6, by rw [step]; exact g1, restF σ6 hf6' g3 lt sp (g4.at (by omega) m5) (by omega), (Ol4.fr f4 fun a _ _ z => by omega).fr g4 fun a _ _ z => by omega, ⟨Pl', L', g2⟩, (B4.fr f4 fun a _ _ z => by omega).fr g4 fun a _ _ z => by omega, (Wz4.fr f4 fun z => by omega).fr g4 fun z => by omega, W5.trans (g4.mono fun a z => by omega)⟩
end MM
