/-! ===== L3: Merging: TEXTS ===== -/
abbrev Sr : Type := Option Nat × Option Nat × Option Nat
def chs : Sr → Option Nat
  | (_, none, y) => y
  | (_, some x, none) => some x
  | (s0, some x, some y) => if x = y ∨ s0 = some y then some x else if s0 = some x then some y else none
def srOK (B : List (List Int32)) (s : Sr) : Prop := (∀ k, s.1 = some k → k < B.length) ∧ (∀ k, s.2.1 = some k → k < B.length) ∧ (∀ k, s.2.2 = some k → k < B.length) ∧ (s.2.1.isSome = true ∨ s.2.2.isSome = true)
section GT
variable {o p0 p1 p2 bl n lt sp F : Nat} {B : List (List Int32)} {P0 P1 P2 Pl : PL} {L : List Rc} {σ : am_S}
theorem Mg_choose {s : Sr} (hB : B.length ≤ 500) (hs : srOK B s) : f_Mg_chooseBlob F σ (oI s.1) (oI s.2.1) (oI s.2.2) = some (oI (chs s)) := by
  obtain ⟨s0, s1, s2⟩ := s
  obtain ⟨h0, h1, h2, -⟩ := hs
  unfold f_Mg_chooseBlob chs
  cases s1 with
  | none => simp only [oI_n1, if_false]
  | some x =>
    have hx := h1 x rfl
    have ex : ((0 : Int32) ≤ nI x) = True := eq_true (nI_pos' (by omega))
    cases s2 with
    | none => simp only [oI_some, ex, if_true, oI_n0]
    | some y =>
      have hy := h2 y rfl
      have ey : (nI y < 0) = False := eq_false (nI_pos (by omega))
      have exy : (nI y = nI x) = (x = y) := by rw [nI_eq (by omega) (by omega)]; exact propext eq_comm
      have e0 : ∀ z, z < 500 → (nI z = oI s0) = (s0 = some z) := by
        intro z hz
        cases s0 with
        | none =>
          apply propext
          constructor
          · intro h
            exact absurd (show nI z < 0 by rw [h]; decide) (nI_pos (by omega))
          · intro h; cases h
        | some k =>
          have hk := h0 k rfl
          rw [oI_some, nI_eq (by omega) (by omega), Option.some.injEq]
          exact propext eq_comm
      simp only [oI_some, ex, if_true, ey, if_false, exy, e0 y (by omega), e0 x (by omega)]
      by_cases c1 : x = y
      · simp [c1, oI_some]
      · by_cases c2 : s0 = some y
        · simp [c1, c2, oI_some]
        · by_cases c3 : s0 = some x
          · simp [c1, c2, c3, oI_some]
          · simp [c1, c2, c3]; rfl
theorem chs_some {s : Sr} {u : Bool} {k : Nat} (h : chs s = some k) : gtxt B s u = (u, some k, B.getD k []) := by
  obtain ⟨s0, s1, s2⟩ := s
  unfold chs at h
  unfold gtxt
  cases s1 with
  | none =>
    cases s2 with
    | none => cases h
    | some y => cases h; rfl
  | some x =>
    cases s2 with
    | none => cases h; rfl
    | some y =>
      simp only at h ⊢
      by_cases c1 : x = y ∨ s0 = some y
      · rw [if_pos c1] at h ⊢; cases h; rfl
      · rw [if_neg c1] at h ⊢
        by_cases c2 : s0 = some x
        · rw [if_pos c2] at h ⊢; cases h; rfl
        · rw [if_neg c2] at h; cases h
theorem chs_none {s : Sr} (hs : s.2.1.isSome = true ∨ s.2.2.isSome = true) (h : chs s = none) : ∃ x y, s.2.1 = some x ∧ s.2.2 = some y ∧ ∀ u, gtxt B s u = if (u || (mrgT (bT B s.1) (B.getD x []) (B.getD y [])).2) = true then (true, none, (mrgT (bT B s.1) (B.getD x []) (B.getD y [])).1) else (false, bfnd B (mrgT (bT B s.1) (B.getD x []) (B.getD y [])).1, (mrgT (bT B s.1) (B.getD x []) (B.getD y [])).1) := by
  obtain ⟨s0, s1, s2⟩ := s
  unfold chs at h
  cases s1 with
  | none =>
    cases s2 with
    | none => rcases hs with z | z <;> cases z
    | some y => cases h
  | some x =>
    cases s2 with
    | none => cases h
    | some y =>
      refine ⟨x, y, rfl, rfl, fun u => ?_⟩
      simp only at h
      unfold gtxt
      simp only
      by_cases c1 : x = y ∨ s0 = some y
      · rw [if_pos c1] at h; cases h
      · rw [if_neg c1] at h ⊢
        by_cases c2 : s0 = some x
        · rw [if_pos c2] at h; cases h
        · rw [if_neg c2]
theorem frS_set {r : Nat} (hr : r < L.length) (hb : L[r].2.2.2.2 = none) (x : Rc) : frS (L.set r x) = frS L + frL x.2.2.2.2 := by
  have := sum_set (f := fun r => frL r.2.2.2.2) L r hr x
  have e0 : frL L[r].2.2.2.2 = 0 := by rw [hb]; rfl
  simp only [e0] at this
  unfold frS
  omega
abbrev GtS (o sp : Nat) : Nat → Prop := fun a => (sp ≤ a ∧ a ≤ sp + 10) ∨ (o + 20 ≤ a ∧ a ≤ o + 27)
/-- keeping the merged TEXT -/
theorem Mg_keep {r : Nat} {T : List Int32} {cf u : Bool} {s : Sr} (h8 : 8 ≤ sp) (ho : MgC σ o p0 p1 p2 bl n lt sp) (hsp : o + 28 ≤ sp) (h : Oc σ sp bl Pl L) (hr : r < L.length) (hL : L[r] = (u, oI s.1, oI s.2.1, oI s.2.2, none)) (hA : TmA σ (o + 20) bl T cf) (hT : T.length ≤ 65536) :
    if frS L + T.length ≤ 65536 then ∃ σ', f_Mg_giveMergedText_j49 F o (nI r) σ = some (1, σ') ∧ Oc σ' sp bl Pl (L.set r (u, oI s.1, oI s.2.1, oI s.2.2, some (none, T))) ∧ Fr (OcS sp) σ σ' else f_Mg_giveMergedText_j49 F o (nI r) σ = some (0, σ) := by
  obtain ⟨tx, z0, z4, z5⟩ := hA
  have hk := Oc_keep (F := F) (a := o + 20 + 4) (n := 0) (t := T) h h8 hr (by rw [hL]) z4 (by omega) hT (by omega) z5
  rw [hL] at hk
  unfold MgC at ho
  unfold TmC at z0
  unfold f_Mg_giveMergedText_j49 f_Tm_text f_Tm_length
  simp (disch := first | omega | (simp only [List.length_cons, List.length_nil] <;> omega)) only [sx_ck, xk_s, sx_gI, sx_gA, xg_s, xi_s, xa_s, List.getElem?_cons_zero, List.getElem?_cons_succ, sx_lI, sx_lA, xl_s, xl_v, sx_pI, sx_pA, xp_s, List.set_cons_zero, List.set_cons_succ, sx_sI, sx_sB, sx_sZ, sx_sS, xs_s, sx_cp, xc_s, put_at, put_ne, new_at, new_ne, Option.bind_some, am_b2, sx_len, xn_s, ho, z0]
  split
  · rename_i hc
    rw [if_pos hc] at hk
    obtain ⟨σ', e1, e2, e3⟩ := hk
    rw [e1]
    exact ⟨σ', rfl, e2, e3⟩
  · rename_i hc
    rw [if_neg hc] at hk
    rw [hk]
    rfl
theorem Mg_giveMerged {r : Nat} {T : List Int32} {cf u : Bool} {s : Sr} (h8 : 8 ≤ sp) (ho : MgC σ o p0 p1 p2 bl n lt sp) (hsp : o + 28 ≤ sp) (hB : Bl σ bl B) (h : Oc σ sp bl Pl L) (hr : r < L.length) (hL : L[r] = (u, oI s.1, oI s.2.1, oI s.2.2, none)) (hA : TmA σ (o + 20) bl T cf) (hT : T.length ≤ 65536) (hF : 32768 < F) (R : Rc)
    (hR : R = if u = true then (true, oI s.1, oI s.2.1, oI s.2.2, some (none, T)) else (false, oI s.1, oI s.2.1, oI s.2.2, some (bfnd B T, T))) :
    if frS (L.set r R) ≤ 65536 then ∃ σ', f_Mg_giveMergedText F σ o (nI r) = some (1, σ') ∧ Oc σ' sp bl Pl (L.set r R) ∧ Fr (OcS sp) σ σ' else f_Mg_giveMergedText F σ o (nI r) = some (0, σ) := by
  have hl := h.len
  have hbn : L[r].2.2.2.2 = none := by rw [hL]
  have hU := Oc_recU (F := F) h hr
  have hk := Mg_keep (F := F) (s := s) h8 ho hsp h hr hL hA hT
  have hsb := fun k => Oc_setBlob (F := F) (k := k) (t := T) h h8 hr hbn
  rw [hL] at hU
  rw [frS_set hr hbn]
  obtain ⟨tx, z0, z4, z5⟩ := hA
  have hfd := Bl_find (F := F) (b := o + 20 + 4) (st := 0) (n := T.length) hB z4 (by omega) (by omega) hF
  rw [z5] at hfd
  unfold MgC at ho
  unfold TmC at z0
  unfold f_Mg_giveMergedText
  simp (disch := first | omega | (simp only [List.length_cons, List.length_nil] <;> omega)) only [sx_ck, xk_s, sx_gI, sx_gA, xg_s, xi_s, xa_s, List.getElem?_cons_zero, List.getElem?_cons_succ, sx_lI, sx_lA, xl_s, xl_v, sx_pI, sx_pA, xp_s, List.set_cons_zero, List.set_cons_succ, sx_sI, sx_sB, sx_sZ, sx_sS, xs_s, sx_cp, xc_s, put_at, put_ne, new_at, new_ne, Option.bind_some, am_b2, sx_len, xn_s, ho, hU]
  cases u with
  | true =>
    rw [if_pos rfl] at hR
    subst hR
    rw [if_neg (show ¬ bo true = 0 by decide)]
    exact hk
  | false =>
    rw [if_neg Bool.false_ne_true] at hR
    subst hR
    rw [if_pos (show bo false = 0 by decide)]
    unfold f_Tm_text f_Tm_length
    simp (disch := first | omega | (simp only [List.length_cons, List.length_nil] <;> omega)) only [sx_ck, xk_s, sx_gI, sx_gA, xg_s, xi_s, xa_s, List.getElem?_cons_zero, List.getElem?_cons_succ, sx_lI, sx_lA, xl_s, xl_v, sx_pI, sx_pA, xp_s, List.set_cons_zero, List.set_cons_succ, sx_sI, sx_sB, sx_sZ, sx_sS, xs_s, sx_cp, xc_s, put_at, put_ne, new_at, new_ne, Option.bind_some, am_b2, sx_len, xn_s, z0]
    rw [nI_0] at hfd
    rw [hfd, Option.bind_some]
    cases hb : bfnd B T with
    | none =>
      rw [if_pos (show oI none < 0 by decide)]
      exact hk
    | some k =>
      obtain ⟨hkB, -⟩ := bfnd_lt hb
      have hB5 : B.length ≤ 500 := by
        obtain ⟨by_, st, ro, fl, lc, wt, ls, ll, lk, lh, lch, -, -, ⟨w, -⟩, -⟩ := hB
        exact w
      rw [if_neg (show ¬ oI (some k) < 0 from nI_pos (by omega))]
      obtain ⟨σ', e1, e2, e3⟩ := hsb k
      rw [hL] at e2
      have hfs : frS L ≤ 65536 := by
        obtain ⟨un, so, tb, ts, tl, mb, -, -, -, -, q⟩ := h
        exact q
      rw [if_pos (by simpa [frL] using hfs), oI_some, e1]
      exact ⟨σ', rfl, e2, e3⟩
theorem Mg_giveText {r : Nat} {u : Bool} {s : Sr} (hb8 : 8 ≤ bl) (hbo : bl + 13 ≤ o) (ho : MgC σ o p0 p1 p2 bl n lt sp) (hsp : o + 28 ≤ sp) (hB : Bl σ bl B) (hM : MkS σ) (hTm : Tm σ (o + 20) bl) (h : Oc σ sp bl Pl L) (hr : r < L.length) (hs : srOK B s) (hL : L[r] = rc0 s u) (hF : 32768 < F) :
    if frS (L.set r (rc1 B s u)) ≤ 65536 then ∃ σ', f_Mg_giveText F σ o (nI r) = some (1, σ') ∧ Oc σ' sp bl Pl (L.set r (rc1 B s u)) ∧ Tm σ' (o + 20) bl ∧ Fr (GtS o sp) σ σ' else ∃ σ' L', f_Mg_giveText F σ o (nI r) = some (0, σ') ∧ Oc σ' sp bl Pl L' ∧ Tm σ' (o + 20) bl ∧ Fr (GtS o sp) σ σ' := by
  have hl := h.len
  have hB5 : B.length ≤ 500 := by
    obtain ⟨by_, st, ro, fl, lc, wt, ls, ll, lk, lh, lch, -, -, ⟨w, -⟩, -⟩ := hB
    exact w
  have hbn : L[r].2.2.2.2 = none := by rw [hL]; rfl
  obtain ⟨q0, q1, q2⟩ := Oc_src (F := F) h hr
  rw [hL] at q0 q1 q2
  simp only [rc0] at q0 q1 q2
  have hc := Mg_choose (F := F) (σ := σ) hB5 hs
  have ho' := ho
  unfold MgC at ho
  unfold f_Mg_giveText
  simp (disch := first | omega | (simp only [List.length_cons, List.length_nil] <;> omega)) only [sx_ck, xk_s, sx_gI, sx_gA, xg_s, xi_s, xa_s, List.getElem?_cons_zero, List.getElem?_cons_succ, sx_lI, sx_lA, xl_s, xl_v, sx_pI, sx_pA, xp_s, List.set_cons_zero, List.set_cons_succ, sx_sI, sx_sB, sx_sZ, sx_sS, xs_s, sx_cp, xc_s, put_at, put_ne, new_at, new_ne, Option.bind_some, am_b2, sx_len, xn_s, ho, q0, q1, q2, hc]
  cases hch : chs s with
  | some k =>
    have hk : k < B.length := by
      have := chs_some (B := B) (u := u) hch
      obtain ⟨s0, s1, s2⟩ := s
      obtain ⟨h0, h1, h2, -⟩ := hs
      unfold chs at hch
      cases s1 with
      | none => exact h2 k hch
      | some x =>
        cases s2 with
        | none => cases hch; exact h1 k rfl
        | some y =>
          simp only at hch
          split at hch
          · cases hch; exact h1 k rfl
          · split at hch
            · cases hch; exact h2 k rfl
            · cases hch
    rw [if_neg (show ¬ oI (some k) < 0 from nI_pos (by omega))]
    obtain ⟨σ', e1, e2, e3⟩ := Oc_setBlob (F := F) (k := k) (t := B.getD k []) h (by omega) hr hbn
    have er : rc1 B s u = (L[r].1, L[r].2.1, L[r].2.2.1, L[r].2.2.2.1, some (some k, B.getD k [])) := by
      unfold rc1
      rw [chs_some hch, hL]
      rfl
    have hfs : frS L ≤ 65536 := by
      obtain ⟨un, so, tb, ts, tl, mb, -, -, -, -, q⟩ := h
      exact q
    rw [frS_set hr hbn, er, if_pos (by simpa [frL] using hfs), oI_some, e1]
    exact ⟨σ', rfl, e2, hTm.fr e3 fun a _ _ z => by omega, e3.mono fun a ha => Or.inl ha⟩
  | none =>
    obtain ⟨x, y, ex, ey, eg⟩ := chs_none (B := B) hs.2.2.2 hch
    have hx := hs.2.1 x ex
    have hy := hs.2.2.1 y ey
    rw [if_pos (show oI none < 0 by decide), ex, ey, oI_some, oI_some]
    obtain ⟨σ1, f1, f2, f3, f4, f5⟩ := Tm_merge (F := F) (t := s.1) hb8 (show bl + 13 ≤ o + 20 by omega) hB hM hTm hs.1 hx hy (by omega)
    have eg' := eg u
    rw [getD_of hx, getD_of hy] at eg'
    generalize hT : (mrgT (bT B s.1) B[x] B[y]).1 = T at *
    generalize hC : (mrgT (bT B s.1) B[x] B[y]).2 = c at *
    have f5' : Fr (GtS o sp) σ σ1 := f5.mono fun a ha => Or.inr ⟨by omega, by omega⟩
    have o1 : MgC σ1 o p0 p1 p2 bl n lt sp := f5.at (by omega) ho'
    have h1 : Oc σ1 sp bl Pl L := h.fr f5 fun a _ _ z => by omega
    have B1 : Bl σ1 bl B := hB.fr f5 fun a _ _ z => by omega
    rw [f1, Option.bind_some]
    have hcf : f_Tm_hasConflict F σ1 (o + 20) = some (bo c) := by
      obtain ⟨tx, z0, -⟩ := f3
      unfold TmC at z0
      unfold f_Tm_hasConflict
      simp (disch := first | omega | (simp only [List.length_cons, List.length_nil] <;> omega)) only [sx_ck, xk_s, sx_gI, sx_gA, xg_s, xi_s, xa_s, List.getElem?_cons_zero, List.getElem?_cons_succ, sx_lI, sx_lA, xl_s, xl_v, sx_pI, sx_pA, xp_s, List.set_cons_zero, List.set_cons_succ, sx_sI, sx_sB, sx_sZ, sx_sS, xs_s, sx_cp, xc_s, put_at, put_ne, new_at, new_ne, Option.bind_some, am_b2, sx_len, xn_s, z0]
      rw [if_pos (bo_or _)]
    have o1' := o1
    unfold MgC at o1
    simp (disch := first | omega | (simp only [List.length_cons, List.length_nil] <;> omega)) only [sx_ck, xk_s, sx_gI, sx_gA, xg_s, xi_s, xa_s, List.getElem?_cons_zero, List.getElem?_cons_succ, sx_lI, sx_lA, xl_s, xl_v, sx_pI, sx_pA, xp_s, List.set_cons_zero, List.set_cons_succ, sx_sI, sx_sB, sx_sZ, sx_sS, xs_s, sx_cp, xc_s, put_at, put_ne, new_at, new_ne, Option.bind_some, am_b2, sx_len, xn_s, o1, hcf]
    unfold f_Mg_giveText_j86
    have main : ∀ (τ : am_S) (L1 : List Rc) (v : Bool), Oc τ sp bl Pl L1 → (hr1 : r < L1.length) → L1[r] = (v, oI s.1, oI s.2.1, oI s.2.2, none) → MgC τ o p0 p1 p2 bl n lt sp → Bl τ bl B → TmA τ (o + 20) bl T c → Tm τ (o + 20) bl → Fr (GtS o sp) σ τ → v = (u || c) → L1.set r (rc1 B s u) = L.set r (rc1 B s u) →
        if frS (L.set r (rc1 B s u)) ≤ 65536 then ∃ σ', (am_b2 (f_Mg_giveMergedText F τ o (nI r)) fun v12 σ13 => am_z v12 σ13) = some (1, σ') ∧ Oc σ' sp bl Pl (L.set r (rc1 B s u)) ∧ Tm σ' (o + 20) bl ∧ Fr (GtS o sp) σ σ' else ∃ σ' L', (am_b2 (f_Mg_giveMergedText F τ o (nI r)) fun v12 σ13 => am_z v12 σ13) = some (0, σ') ∧ Oc σ' sp bl Pl L' ∧ Tm σ' (o + 20) bl ∧ Fr (GtS o sp) σ σ' := by
      intro τ L1 v hO hr1 hL1 hoo hBB hAA hTT hfr hv hset
      have hg := Mg_giveMerged (F := F) (s := s) (by omega) hoo hsp hBB hO hr1 hL1 hAA (by omega) hF (rc1 B s u) (by
        unfold rc1
        rw [eg', ← hv]
        cases v <;> rfl)
      rw [hset] at hg
      split
      · rename_i hc
        rw [if_pos hc] at hg
        obtain ⟨σ', e1, e2, e3⟩ := hg
        rw [e1]
        exact ⟨σ', rfl, e2, hTT.fr e3 fun a _ _ z => by omega, hfr.trans (e3.mono fun a ha => Or.inl ha)⟩
      · rename_i hc
        rw [if_neg hc] at hg
        rw [hg]
        exact ⟨τ, L1, rfl, hO, hTT, hfr⟩
    cases c with
    | false =>
      rw [if_pos (show bo false = 0 by decide)]
      exact main σ1 L u h1 hr hL o1' B1 f3 f2 f5' (by simp) rfl
    | true =>
      rw [if_neg (show ¬ bo true = 0 by decide)]
      obtain ⟨σ2, g1, g2, g3⟩ := Oc_setU (F := F) h1 (by omega) hr
      rw [g1, Option.bind_some]
      refine main σ2 (L.set r (true, L[r].2)) true g2 (by simpa using hr) ?_ (g3.at (by omega) o1') (B1.fr g3 fun a _ _ z => by omega) (f3.fr g3 (by omega) (by omega)) (f2.fr g3 fun a _ _ z => by omega) (f5'.trans (g3.mono fun a ha => Or.inl ha)) (by simp) (by simp)
      rw [List.getElem_set_self, hL]
      rfl
end GT
