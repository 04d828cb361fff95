/-! ===== L3: Renames: SCORES, same BLOBS, the search, reads ===== -/
abbrev SaS (o bl : Nat) : Nat → Prop := fun a => (o ≤ a ∧ a ≤ o + 6) ∨ a = bl + 12
def SaI (σ : am_S) (o bl p1 p2 : Nat) (B : List (List Int32)) (P Q : PL) (g c : Nat) : Prop := Bl σ bl B ∧ Wz σ bl ∧ Pm σ p1 P ∧ Pm σ p2 Q ∧ ∃ sc, LcI σ o bl P Q sc P.length Q.length ∧ ∀ g' c', c' < (gA Q P).length → (g' < g ∨ g' = g ∧ c' < c) → sc (g' * 50 + c') = nI (rsc B P Q true g' c')
theorem LcI.fr {σ σ1 : am_S} {o bl i j : Nat} {P Q : PL} {sc : Nat → Int32} {S : Nat → Prop} (h : LcI σ o bl P Q sc i j) (hf : Fr S σ σ1) (hd : ∀ a, o ≤ a → a ≤ o + 6 → ¬ S a) : LcI σ1 o bl P Q sc i j := by
  obtain ⟨ge, co, ct, pa, ps, hR, h⟩ := h
  exact ⟨ge, co, ct, pa, ps, hR.fr hf hd, h⟩
theorem Wz.fr {σ σ1 : am_S} {o : Nat} {S : Nat → Prop} (h : Wz σ o) (hf : Fr S σ σ1) (hd : ¬ S (o + 12)) : Wz σ1 o := by
  obtain ⟨wt, h1, h2⟩ := h
  exact ⟨wt, hf.at hd h1, h2⟩
theorem gA_getD {P Q : PL} {g : Nat} (h : g < (gA P Q).length) : (gA P Q).getD g 0 = (gA P Q)[g] := by simp [h]
theorem getD_of {B : List (List Int32)} {k : Nat} (h : k < B.length) : B.getD k [] = B[k] := by simp [h]
theorem clamp_nI {i : Int32} (h : ¬ i < 0) : nI i.toNatClampNeg = i := by
  obtain ⟨j, hj, rfl⟩ := nI_of h
  rw [nI_clamp hj]
section RS
variable {o bl p1 p2 F : Nat} {P Q : PL} {B : List (List Int32)}
theorem rsc_T (hP : VB B P) (hQ : VB B Q) {g c : Nat} (hg : g < (gA P Q).length) (hc : c < (gA Q P).length) : rsc B P Q true g c = if (B[valN P (gA P Q)[g]]'(hP _ (gA_get hg).1).1).length = 0 ∨ (B[valN Q (gA Q P)[c]]'(hQ _ (gA_get hc).1).1).length = 0 then 0 else scr B (valN P (gA P Q)[g]) (valN Q (gA Q P)[c]) := by
  unfold rsc
  rw [gA_getD hg, gA_getD hc, getD_of (hP _ (gA_get hg).1).1, getD_of (hQ _ (gA_get hc).1).1]
  simp
theorem rsc_F (hP : VB B P) (hQ : VB B Q) {g c : Nat} (hg : g < (gA P Q).length) (hc : c < (gA Q P).length) : rsc B P Q false g c = if (B[valN P (gA P Q)[g]]'(hP _ (gA_get hg).1).1).length = 0 ∨ (B[valN Q (gA Q P)[c]]'(hQ _ (gA_get hc).1).1).length = 0 then 0 else if valN P (gA P Q)[g] = valN Q (gA Q P)[c] then 1000 else 0 := by
  unfold rsc
  rw [gA_getD hg, gA_getD hc, getD_of (hP _ (gA_get hg).1).1, getD_of (hQ _ (gA_get hc).1).1]
  simp
theorem Rn_saPut {σ : am_S} {g c : Nat} (h : SaI σ o bl p1 p2 B P Q g c) (hg : g < (gA P Q).length) (hc : c < (gA Q P).length) (hG : (gA P Q).length ≤ 50) (hC : (gA Q P).length ≤ 50) (hb : bl + 13 ≤ o) (h8 : 8 ≤ bl) (hp1 : p1 + 4 ≤ o) (hp2 : p2 + 4 ≤ o) : ∃ σ', am_sI σ (o + 4) (nI g * 50 + nI c) (nI (rsc B P Q true g c)) = some σ' ∧ SaI σ' o bl p1 p2 B P Q g (c + 1) ∧ Fr (SaS o bl) σ σ' := by
  obtain ⟨hB, hW, hP, hQ, sc, ⟨ge, co, ct, pa, ps, ⟨r1, r2, r3, r4, r5, r6, r7⟩, hh⟩, hs⟩ := h
  simp (disch := first | omega | (simp only [List.length_cons, List.length_nil] <;> omega)) only [sx_ck, xk_s, sx_gI, sx_gA, xg_s, xi_s, xa_s, List.getElem?_cons_zero, List.getElem?_cons_succ, sx_lI, sx_lA, xl_s, xl_v, sx_pI, sx_pA, xp_s, List.set_cons_zero, List.set_cons_succ, sx_sI, sx_sB, sx_sZ, sx_sS, xs_s, sx_cp, xc_s, put_at, put_ne, new_at, new_ne, Option.bind_some, am_b2, sx_len, xn_s, r5, nI_mulL, nI_add]
  have hf : Fr (RnS o) σ (am_put σ (o + 4) (cI 2500 (uf sc (g * 50 + c) (nI (rsc B P Q true g c))))) := (Fr.refl _ _).p ⟨by omega, by omega⟩
  refine ⟨_, rfl, ⟨hB.fr hf fun a _ _ z => ?_, hW.fr hf fun z => ?_, hP.fr hf fun a _ _ z => ?_, hQ.fr hf fun a _ _ z => ?_, uf sc (g * 50 + c) (nI (rsc B P Q true g c)), ⟨ge, co, ct, pa, ps, ⟨by simp (disch := omega) only [put_at, put_ne, new_at, new_ne, r1], by simp (disch := omega) only [put_at, put_ne, new_at, new_ne, r2], by simp (disch := omega) only [put_at, put_ne, new_at, new_ne, r3], by simp (disch := omega) only [put_at, put_ne, new_at, new_ne, r4], by simp (disch := omega) only [put_at, put_ne, new_at, new_ne], by simp (disch := omega) only [put_at, put_ne, new_at, new_ne, r6], by simp (disch := omega) only [put_at, put_ne, new_at, new_ne, r7]⟩, hh⟩, fun g' c' hc' hor => ?_⟩, hf.mono fun a ha => Or.inl ha⟩
  · omega
  · omega
  · omega
  · omega
  · by_cases e : g' = g ∧ c' = c
    · rw [e.1, e.2, uf_same]
    · have hne : g' * 50 + c' ≠ g * 50 + c := by omega
      rw [uf_ne hne]
      exact hs g' c' hc' (by omega)
theorem Rn_saRow (hVP : VB B P) (hVQ : VB B Q) (hB5 : B.length ≤ 500) {g : Nat} (hg : g < (gA P Q).length) (hG : (gA P Q).length ≤ 50) (hC : (gA Q P).length ≤ 50) (h8 : 8 ≤ bl) (hb : bl + 13 ≤ o) (hb1 : bl + 13 ≤ p1) (hb2 : bl + 13 ≤ p2) (hp1 : p1 + 4 ≤ o) (hp2 : p2 + 4 ≤ o) (hF : 32768 < F) {kk : am_S → Option am_S} : ∀ (m c : Nat) (σ : am_S), SaI σ o bl p1 p2 B P Q g c → c ≤ (gA Q P).length → (gA Q P).length - c < m →
    ∃ σ', f_Rn_scoreAll_l25 F o p2 (nI g) (nI (valN P (gA P Q)[g])) kk m (nI c) σ = kk σ' ∧ SaI σ' o bl p1 p2 B P Q g (gA Q P).length ∧ Fr (SaS o bl) σ σ' := by
  intro m
  induction m with
  | zero => intro c _ _ _ h; omega
  | succ m ih =>
    intro c σ hI h6 h7
    obtain ⟨hB, hW, hP, hQ, sc, ⟨ge, co, ct, pa, ps, ⟨r1, r2, r3, r4, r5, r6, r7⟩, g1, g2, g3, g4⟩, hs⟩ := id hI
    have hl2 := hQ.lt
    have n2 := gA_len (P := Q) (Q := P)
    rw [f_Rn_scoreAll_l25]
    by_cases hc : (gA Q P).length ≤ c
    · simp (disch := first | omega | (simp only [List.length_cons, List.length_nil] <;> omega)) only [sx_ck, xk_s, sx_gI, sx_gA, xg_s, xi_s, xa_s, List.getElem?_cons_zero, List.getElem?_cons_succ, sx_lI, sx_lA, xl_s, xl_v, sx_pI, sx_pA, xp_s, List.set_cons_zero, List.set_cons_succ, sx_sI, sx_sB, sx_sZ, sx_sS, xs_s, sx_cp, xc_s, put_at, put_ne, new_at, new_ne, Option.bind_some, am_b2, sx_len, xn_s, r1]
      rw [if_pos (nI_le hc (by omega))]
      have e : c = (gA Q P).length := by omega
      subst e
      exact ⟨σ, rfl, hI, Fr.refl _ _⟩
    · have hc' : c < (gA Q P).length := by omega
      have ec := g2 c hc'
      obtain ⟨k1, k2, k3⟩ := gA_get hc'
      obtain ⟨m1, m2, m3⟩ := gA_get hg
      obtain ⟨v1, v2⟩ := hVQ _ k1
      obtain ⟨u1, u2⟩ := hVP _ m1
      have hv := Pm_value (F := F) hQ k1
      rw [← valI_of k1, v2] at hv
      have hL1 := Bl_len (F := F) hB u1
      have hL2 := Bl_len (F := F) hB v1
      have er := rsc_T hVP hVQ hg hc'
      obtain ⟨d1, e1⟩ : ∃ d, B[valN P (gA P Q)[g]].length = d := ⟨_, rfl⟩
      obtain ⟨d2, e2⟩ : ∃ d, B[valN Q (gA Q P)[c]].length = d := ⟨_, rfl⟩
      have hle1 : d1 ≤ 4096 := by
        obtain ⟨by_, st, ro, fl, lc, wt, ls, ll, lk, lh, lch, -, -, ⟨-, -, w, -⟩, -⟩ := hB
        have := w _ u1
        omega
      have hle2 : d2 ≤ 4096 := by
        obtain ⟨by_, st, ro, fl, lc, wt, ls, ll, lk, lh, lch, -, -, ⟨-, -, w, -⟩, -⟩ := hB
        have := w _ v1
        omega
      rw [e1] at hL1
      rw [e2] at hL2
      rw [e1, e2] at er
      have z1 : (nI d1 = 0) ↔ d1 = 0 := by rw [← nI_0]; exact nI_eq (by omega) (by omega)
      have z2 : (nI d2 = 0) ↔ d2 = 0 := by rw [← nI_0]; exact nI_eq (by omega) (by omega)
      have hz : rsc B P Q true g c = 0 → ∃ σ', f_Rn_scoreAll_j71 F o (nI g) (nI (valN P (gA P Q)[g])) (nI c) (nI (valN Q (gA Q P)[c])) (fun y5 τ => f_Rn_scoreAll_l25 F o p2 (nI g) (nI (valN P (gA P Q)[g])) kk m y5 τ) σ = kk σ' ∧ SaI σ' o bl p1 p2 B P Q g (gA Q P).length ∧ Fr (SaS o bl) σ σ' := by
        intro hr
        obtain ⟨σ1, q1, q2, q3⟩ := Rn_saPut hI hg hc' hG hC hb h8 hp1 hp2
        obtain ⟨σ', i1, i2, i3⟩ := ih (c + 1) σ1 q2 (by omega) (by omega)
        rw [hr, nI_0] at q1
        unfold f_Rn_scoreAll_j71 f_Rn_scoreAll_j76
        rw [gA_of r1 (by rfl), Option.bind_some, if_neg (by decide), q1, Option.bind_some, nI_1]
        exact ⟨σ', i1, i2, q3.trans i3⟩
      simp (disch := first | omega | (simp only [List.length_cons, List.length_nil] <;> omega)) only [sx_ck, xk_s, sx_gI, sx_gA, xg_s, xi_s, xa_s, List.getElem?_cons_zero, List.getElem?_cons_succ, sx_lI, sx_lA, xl_s, xl_v, sx_pI, sx_pA, xp_s, List.set_cons_zero, List.set_cons_succ, sx_sI, sx_sB, sx_sZ, sx_sS, xs_s, sx_cp, xc_s, put_at, put_ne, new_at, new_ne, Option.bind_some, am_b2, sx_len, xn_s, r1, r3, ec, hv, hL1, hL2]
      rw [if_neg (nI_ge hc' (by omega))]
      simp only [z1, z2]
      by_cases c1 : d1 = 0
      · rw [if_pos c1]
        exact hz (by rw [er, if_pos (Or.inl c1)])
      · rw [if_neg c1]
        by_cases c2 : d2 = 0
        · rw [if_pos c2]
          exact hz (by rw [er, if_pos (Or.inr c2)])
        · rw [if_neg c2]
          rw [if_neg (by rintro (z | z) <;> contradiction)] at er
          obtain ⟨σ1, s1, s2, s3, s4⟩ := Bl_score (F := F) hB hW h8 u1 v1 hF
          have hI1 : SaI σ1 o bl p1 p2 B P Q g c := ⟨s2, s3, hP.fr s4 fun a _ _ z => by omega, hQ.fr s4 fun a _ _ z => by omega, sc, LcI.fr ⟨ge, co, ct, pa, ps, ⟨r1, r2, r3, r4, r5, r6, r7⟩, g1, g2, g3, g4⟩ s4 fun a _ _ z => by omega, hs⟩
          obtain ⟨σ2, q1, q2, q3⟩ := Rn_saPut hI1 hg hc' hG hC hb h8 hp1 hp2
          obtain ⟨σ', i1, i2, i3⟩ := ih (c + 1) σ2 q2 (by omega) (by omega)
          rw [er] at q1
          unfold f_Rn_scoreAll_j76
          rw [gA_of r1 (by rfl), Option.bind_some, if_pos rfl, gA_of r1 (by rfl), Option.bind_some, s1]
          simp only [am_b2, Option.bind_some]
          rw [q1, Option.bind_some, nI_1]
          exact ⟨σ', i1, i2, (s4.mono fun a ha => Or.inr ha).trans (q3.trans i3)⟩
theorem Rn_saAll (hVP : VB B P) (hVQ : VB B Q) (hB5 : B.length ≤ 500) (hG : (gA P Q).length ≤ 50) (hC : (gA Q P).length ≤ 50) (h8 : 8 ≤ bl) (hb : bl + 13 ≤ o) (hb1 : bl + 13 ≤ p1) (hb2 : bl + 13 ≤ p2) (hp1 : p1 + 4 ≤ o) (hp2 : p2 + 4 ≤ o) (hF : 32768 < F) : ∀ (m g : Nat) (σ : am_S), SaI σ o bl p1 p2 B P Q g 0 → g ≤ (gA P Q).length → (gA P Q).length - g < m →
    ∃ σ', f_Rn_scoreAll_l2 F o p1 p2 m (nI g) σ = some σ' ∧ SaI σ' o bl p1 p2 B P Q (gA P Q).length 0 ∧ Fr (SaS o bl) σ σ' := by
  intro m
  induction m with
  | zero => intro g _ _ _ h; omega
  | succ m ih =>
    intro g σ hI h6 h7
    obtain ⟨hB, hW, hP, hQ, sc, ⟨ge, co, ct, pa, ps, ⟨r1, r2, r3, r4, r5, r6, r7⟩, g1, g2, g3, g4⟩, hs⟩ := id hI
    have hl1 := hP.lt
    have n1 := gA_len (P := P) (Q := Q)
    rw [f_Rn_scoreAll_l2]
    by_cases hc : (gA P Q).length ≤ g
    · simp (disch := first | omega | (simp only [List.length_cons, List.length_nil] <;> omega)) only [sx_ck, xk_s, sx_gI, sx_gA, xg_s, xi_s, xa_s, List.getElem?_cons_zero, List.getElem?_cons_succ, sx_lI, sx_lA, xl_s, xl_v, sx_pI, sx_pA, xp_s, List.set_cons_zero, List.set_cons_succ, sx_sI, sx_sB, sx_sZ, sx_sS, xs_s, sx_cp, xc_s, put_at, put_ne, new_at, new_ne, Option.bind_some, am_b2, sx_len, xn_s, r1]
      rw [if_pos (nI_le hc (by omega))]
      have e : g = (gA P Q).length := by omega
      subst e
      exact ⟨σ, rfl, hI, Fr.refl _ _⟩
    · have hg : g < (gA P Q).length := by omega
      have eg := g1 g hg
      obtain ⟨m1, m2, m3⟩ := gA_get hg
      obtain ⟨u1, u2⟩ := hVP _ m1
      have hv := Pm_value (F := F) hP m1
      rw [← valI_of m1, u2] at hv
      obtain ⟨σ1, q1, q2, q3⟩ := Rn_saRow (F := F) hVP hVQ hB5 hg hG hC h8 hb hb1 hb2 hp1 hp2 hF (kk := fun τ => f_Rn_scoreAll_j116 F (nI g) (fun y3 τ => f_Rn_scoreAll_l2 F o p1 p2 m y3 τ) τ) F 0 σ hI (by omega) (by omega)
      obtain ⟨y1, y2, y3, y4, sc', y5, y6⟩ := q2
      obtain ⟨σ', i1, i2, i3⟩ := ih (g + 1) σ1 ⟨y1, y2, y3, y4, sc', y5, fun g' c' hc' hor => y6 g' c' hc' (by omega)⟩ (by omega) (by omega)
      simp (disch := first | omega | (simp only [List.length_cons, List.length_nil] <;> omega)) only [sx_ck, xk_s, sx_gI, sx_gA, xg_s, xi_s, xa_s, List.getElem?_cons_zero, List.getElem?_cons_succ, sx_lI, sx_lA, xl_s, xl_v, sx_pI, sx_pA, xp_s, List.set_cons_zero, List.set_cons_succ, sx_sI, sx_sB, sx_sZ, sx_sS, xs_s, sx_cp, xc_s, put_at, put_ne, new_at, new_ne, Option.bind_some, am_b2, sx_len, xn_s, r1, r2, eg, hv]
      rw [if_neg (nI_ge hg (by omega)), ← nI_0, q1]
      unfold f_Rn_scoreAll_j116
      rw [nI_1]
      exact ⟨σ', i1, i2, q3.trans i3⟩
theorem Rn_pbRow (hVP : VB B P) (hVQ : VB B Q) (hB5 : B.length ≤ 500) {sc : Nat → Int32} {s : PSt} {g : Nat} (hg : g < (gA P Q).length) (hne : (B[valN P (gA P Q)[g]]'(hVP _ (gA_get hg).1).1).length ≠ 0) (hl : P.length ≤ 400) (h8 : 8 ≤ o) {kk : am_S → Option am_S} {σ : am_S} (hI : RnI σ o bl P Q sc s) (hQ : Pm σ p2 Q) : ∀ (m c : Nat), c ≤ (gA Q P).length → (gA Q P).length - c < m →
    ∃ σ', f_Rn_pairSameBlobs_l44 F o p2 (nI g) (nI (valN P (gA P Q)[g])) kk m 1 (nI c) σ = kk σ' ∧ RnI σ' o bl P Q sc (match (List.range' c ((gA Q P).length - c)).find? (fun c => !(s.2 c) && decide (rsc B P Q false g c = 1000)) with
    | some c => joinS s g c 1000
    | none => s) ∧ Fr (RnS o) σ σ' := by
  have hl2 := hQ.lt
  have n2 := gA_len (P := Q) (Q := P)
  have n1 := gA_len (P := P) (Q := Q)
  have hI' := id hI
  obtain ⟨ge, co, ct, pa, ps, ⟨r1, r2, r3, r4, r5, r6, r7⟩, g1, g2, g3, g4, g5⟩ := hI
  intro m
  induction m with
  | zero => intro c _ h; omega
  | succ m ih =>
    intro c h6 h7
    rw [f_Rn_pairSameBlobs_l44]
    by_cases hc : (gA Q P).length ≤ c
    · simp (disch := first | omega | (simp only [List.length_cons, List.length_nil] <;> omega)) only [sx_ck, xk_s, sx_gI, sx_gA, xg_s, xi_s, xa_s, List.getElem?_cons_zero, List.getElem?_cons_succ, sx_lI, sx_lA, xl_s, xl_v, sx_pI, sx_pA, xp_s, List.set_cons_zero, List.set_cons_succ, sx_sI, sx_sB, sx_sZ, sx_sS, xs_s, sx_cp, xc_s, put_at, put_ne, new_at, new_ne, Option.bind_some, am_b2, sx_len, xn_s, r1]
      rw [if_pos (nI_le hc (by omega)), show (gA Q P).length - c = 0 by omega]
      exact ⟨σ, rfl, hI', Fr.refl _ _⟩
    · have hc' : c < (gA Q P).length := by omega
      have ec := g2 c hc'
      have ect := g3 c hc'
      obtain ⟨k1, k2, k3⟩ := gA_get hc'
      obtain ⟨m1, m2, m3⟩ := gA_get hg
      obtain ⟨v1, v2⟩ := hVQ _ k1
      obtain ⟨u1, u2⟩ := hVP _ m1
      have hv := Pm_value (F := F) hQ k1
      rw [← valI_of k1, v2] at hv
      have er := rsc_F hVP hVQ hg hc'
      obtain ⟨d, hd⟩ : ∃ d, (gA Q P).length - c = d + 1 := ⟨(gA Q P).length - c - 1, by omega⟩
      have hd2 : (gA Q P).length - (c + 1) = d := by omega
      have hv2 : (nI (valN Q (gA Q P)[c]) = nI (valN P (gA P Q)[g])) ↔ valN Q (gA Q P)[c] = valN P (gA P Q)[g] := nI_eq (by omega) (by omega)
      obtain ⟨σ2, i1, i2, i3⟩ := ih (c + 1) (by omega) (by omega)
      rw [hd2] at i2
      simp (disch := first | omega | (simp only [List.length_cons, List.length_nil] <;> omega)) only [sx_ck, xk_s, sx_gI, sx_gA, xg_s, xi_s, xa_s, List.getElem?_cons_zero, List.getElem?_cons_succ, sx_lI, sx_lA, xl_s, xl_v, sx_pI, sx_pA, xp_s, List.set_cons_zero, List.set_cons_succ, sx_sI, sx_sB, sx_sZ, sx_sS, xs_s, sx_cp, xc_s, put_at, put_ne, new_at, new_ne, Option.bind_some, am_b2, sx_len, xn_s, r1, r4, r3, ec, ect, hv, nI_leI]
      rw [if_neg hc, if_neg (by decide), hd, List.range'_succ, List.find?_cons]
      simp only [hv2, bo_0]
      have ekeep : (!(s.2 c) && decide (rsc B P Q false g c = 1000)) = false → ∃ σ', f_Rn_pairSameBlobs_l44 F o p2 (nI g) (nI (valN P (gA P Q)[g])) kk m 1 (nI c + 1) σ = kk σ' ∧ RnI σ' o bl P Q sc (match (match (!(s.2 c) && decide (rsc B P Q false g c = 1000)) with | true => some c | false => List.find? (fun c => !(s.2 c) && decide (rsc B P Q false g c = 1000)) (List.range' (c + 1) d)) with
    | some c => joinS s g c 1000
    | none => s) ∧ Fr (RnS o) σ σ' := by
        intro e
        rw [e, nI_1]
        exact ⟨σ2, i1, i2, i3⟩
      by_cases ct1 : s.2 c = false
      · rw [if_pos ct1]
        by_cases cv : valN Q (gA Q P)[c] = valN P (gA P Q)[g]
        · rw [if_pos cv]
          have e1000 : rsc B P Q false g c = 1000 := by
            rw [er, if_neg, if_pos cv.symm]
            rintro (z | z)
            · exact hne z
            · simp only [cv] at z
              exact hne z
          have e : (!(s.2 c) && decide (rsc B P Q false g c = 1000)) = true := by simp [ct1, e1000]
          simp only [e]
          obtain ⟨σ1, q1, q2, q3⟩ := Rn_join (F := F) (v := 1000) hI' h8 hl hl2 hg hc'
          rw [show (1000 : Int32) = nI 1000 from rfl, q1, Option.bind_some]
          obtain ⟨m', rfl⟩ : ∃ k, m = k + 1 := ⟨m - 1, by omega⟩
          rw [f_Rn_pairSameBlobs_l44]
          obtain ⟨ge', co', ct', pa', ps', ⟨t1, -⟩, -⟩ := id q2
          simp (disch := first | omega | (simp only [List.length_cons, List.length_nil] <;> omega)) only [sx_ck, xk_s, sx_gI, sx_gA, xg_s, xi_s, xa_s, List.getElem?_cons_zero, List.getElem?_cons_succ, sx_lI, sx_lA, xl_s, xl_v, sx_pI, sx_pA, xp_s, List.set_cons_zero, List.set_cons_succ, sx_sI, sx_sB, sx_sZ, sx_sS, xs_s, sx_cp, xc_s, put_at, put_ne, new_at, new_ne, Option.bind_some, am_b2, sx_len, xn_s, t1]
          rw [if_pos trivial]
          refine ⟨σ1, ?_, q2, q3⟩
          split <;> rfl
        · rw [if_neg cv]
          apply ekeep
          have : rsc B P Q false g c ≠ 1000 := by
            rw [er]
            split
            · omega
            · rw [if_neg (fun z => cv z.symm)]
              omega
          simp [this]
      · rw [if_neg ct1]
        apply ekeep
        simp at ct1
        simp [ct1]
theorem Rn_pbAll (hVP : VB B P) (hVQ : VB B Q) (hB5 : B.length ≤ 500) {sc : Nat → Int32} (h8 : 8 ≤ o) (hb : bl + 13 ≤ o) (hp1 : p1 + 4 ≤ o) (hp2 : p2 + 4 ≤ o) (hF : 32768 < F) : ∀ (m g : Nat) (σ : am_S) (s : PSt), RnI σ o bl P Q sc s → Bl σ bl B → Pm σ p1 P → Pm σ p2 Q → g ≤ (gA P Q).length → (gA P Q).length - g < m →
    ∃ σ', f_Rn_pairSameBlobs_l2 F o p1 p2 m (nI g) σ = some σ' ∧ RnI σ' o bl P Q sc (sqs (rsc B P Q false) (gA Q P).length (List.range' g ((gA P Q).length - g)) s) ∧ Fr (RnS o) σ σ' := by
  intro m
  induction m with
  | zero => intro g _ _ _ _ _ _ _ h; omega
  | succ m ih =>
    intro g σ s hI hB hP hQ h6 h7
    have hI' := id hI
    obtain ⟨ge, co, ct, pa, ps, ⟨r1, r2, r3, r4, r5, r6, r7⟩, g1, g2, g3, g4, g5⟩ := hI
    have hl1 := hP.lt
    have hl2 := hQ.lt
    have n1 := gA_len (P := P) (Q := Q)
    have n2 := gA_len (P := Q) (Q := P)
    rw [f_Rn_pairSameBlobs_l2]
    by_cases hc : (gA P Q).length ≤ g
    · simp (disch := first | omega | (simp only [List.length_cons, List.length_nil] <;> omega)) only [sx_ck, xk_s, sx_gI, sx_gA, xg_s, xi_s, xa_s, List.getElem?_cons_zero, List.getElem?_cons_succ, sx_lI, sx_lA, xl_s, xl_v, sx_pI, sx_pA, xp_s, List.set_cons_zero, List.set_cons_succ, sx_sI, sx_sB, sx_sZ, sx_sS, xs_s, sx_cp, xc_s, put_at, put_ne, new_at, new_ne, Option.bind_some, am_b2, sx_len, xn_s, r1]
      rw [if_pos (nI_le hc (by omega)), show (gA P Q).length - g = 0 by omega]
      exact ⟨σ, rfl, hI', Fr.refl _ _⟩
    · have hg : g < (gA P Q).length := by omega
      have eg := g1 g hg
      obtain ⟨m1, m2, m3⟩ := gA_get hg
      obtain ⟨u1, u2⟩ := hVP _ m1
      have hv := Pm_value (F := F) hP m1
      rw [← valI_of m1, u2] at hv
      have hL1 := Bl_len (F := F) hB u1
      obtain ⟨d1, e1⟩ : ∃ d, B[valN P (gA P Q)[g]].length = d := ⟨_, rfl⟩
      have hle1 : d1 ≤ 4096 := by
        obtain ⟨by_, st, ro, fl, lc, wt, ls, ll, lk, lh, lch, -, -, ⟨-, -, w, -⟩, -⟩ := hB
        have := w _ u1
        omega
      rw [e1] at hL1
      obtain ⟨d, hd⟩ : ∃ d, (gA P Q).length - g = d + 1 := ⟨(gA P Q).length - g - 1, by omega⟩
      have hd2 : (gA P Q).length - (g + 1) = d := by omega
      simp (disch := first | omega | (simp only [List.length_cons, List.length_nil] <;> omega)) only [sx_ck, xk_s, sx_gI, sx_gA, xg_s, xi_s, xa_s, List.getElem?_cons_zero, List.getElem?_cons_succ, sx_lI, sx_lA, xl_s, xl_v, sx_pI, sx_pA, xp_s, List.set_cons_zero, List.set_cons_succ, sx_sI, sx_sB, sx_sZ, sx_sS, xs_s, sx_cp, xc_s, put_at, put_ne, new_at, new_ne, Option.bind_some, am_b2, sx_len, xn_s, r1, r2, eg, hv, hL1, nI_leI]
      have hz : (nI d1 ≤ 0) ↔ d1 ≤ 0 := by rw [← nI_0]; exact nI_leI (by omega) (by omega)
      simp only [hz]
      rw [if_neg hc, hd, List.range'_succ, sqs]
      unfold f_Rn_pairSameBlobs_j39 f_Rn_pairSameBlobs_j103
      by_cases c0 : d1 ≤ 0
      · rw [if_pos c0]
        have hfn : (List.range' 0 (gA Q P).length).find? (fun c => !(s.2 c) && decide (rsc B P Q false g c = 1000)) = none := by
          rw [List.find?_eq_none]
          intro c hcm
          have hc' : c < (gA Q P).length := by have := mem_range'.mp hcm; omega
          have er := rsc_F hVP hVQ hg hc'
          rw [if_pos (Or.inl (by omega))] at er
          simp [er]
        rw [hfn]
        obtain ⟨F', rfl⟩ : ∃ F', F = F' + 1 := ⟨F - 1, by omega⟩
        obtain ⟨σ', i1, i2, i3⟩ := ih (g + 1) σ s hI' hB hP hQ (by omega) (by omega)
        rw [hd2] at i2
        refine ⟨σ', ?_, i2, i3⟩
        rw [f_Rn_pairSameBlobs_l44]
        simp (disch := first | omega | (simp only [List.length_cons, List.length_nil] <;> omega)) only [sx_ck, xk_s, sx_gI, sx_gA, xg_s, xi_s, xa_s, List.getElem?_cons_zero, List.getElem?_cons_succ, sx_lI, sx_lA, xl_s, xl_v, sx_pI, sx_pA, xp_s, List.set_cons_zero, List.set_cons_succ, sx_sI, sx_sB, sx_sZ, sx_sS, xs_s, sx_cp, xc_s, put_at, put_ne, new_at, new_ne, Option.bind_some, am_b2, sx_len, xn_s, r1]
        rw [if_pos trivial, nI_1, i1]
        split <;> rfl
      · rw [if_neg c0]
        obtain ⟨σ1, q1, q2, q3⟩ := Rn_pbRow (F := F) (p2 := p2) hVP hVQ hB5 hg (by omega) hl1 h8 hI' hQ (kk := fun τ => f_Rn_pairSameBlobs_l2 F o p1 p2 m (nI g + 1) τ) F 0 (by omega) (by omega)
        rw [Nat.sub_zero] at q2
        obtain ⟨σ', i1, i2, i3⟩ := ih (g + 1) σ1 _ q2 (hB.fr q3 fun a _ _ z => by omega) (hP.fr q3 fun a _ _ z => by omega) (hQ.fr q3 fun a _ _ z => by omega) (by omega) (by omega)
        rw [hd2] at i2
        rw [← nI_0, q1, nI_1]
        exact ⟨σ', i1, i2, q3.trans i3⟩
theorem Rn_search {σ : am_S} (h : Rn σ o bl) (hB : Bl σ bl B) (hW : Wz σ bl) (hP : Pm σ p1 P) (hQ : Pm σ p2 Q) (hs : Srt P) (hs' : Srt Q) (hVP : VB B P) (hVQ : VB B Q) (h8 : 8 ≤ bl) (hb : bl + 13 ≤ o) (hb1 : bl + 13 ≤ p1) (hb2 : bl + 13 ≤ p2) (hp1 : p1 + 4 ≤ o) (hp2 : p2 + 4 ≤ o) (hF : 32768 < F) :
    ∃ σ' sc, f_Rn_search F σ o p1 p2 = some σ' ∧ RnI σ' o bl P Q sc (rnS B P Q) ∧ Bl σ' bl B ∧ Wz σ' bl ∧ Fr (SaS o bl) σ σ' := by
  have hl1 := hP.lt
  have hl2 := hQ.lt
  have n1 := gA_len (P := P) (Q := Q)
  have n2 := gA_len (P := Q) (Q := P)
  have hB5 : B.length ≤ 500 := by
    obtain ⟨by_, st, ro, fl, lc, wt, ls, ll, lk, lh, lch, -, -, ⟨w, -⟩, -⟩ := hB
    exact w
  obtain ⟨σ1, sc, q1, q2, q3⟩ := Rn_list (F := F) h hP hQ hs hs' (by omega) hp1 hp2 (by omega)
  have hB1 := hB.fr q3 fun a _ _ z => by omega
  have hW1 := hW.fr q3 fun z => by omega
  have hP1 := hP.fr q3 fun a _ _ z => by omega
  have hQ1 := hQ.fr q3 fun a _ _ z => by omega
  obtain ⟨ge0, co0, ct0, sc0, pa0, ps0, g0, c0, t1, -⟩ := h
  obtain ⟨ge, co, ct, pa, ps, ⟨r1, -⟩, -⟩ := id q2
  unfold f_Rn_search
  rw [am_ck_of t1, q1, Option.bind_some]
  simp (disch := first | omega | (simp only [List.length_cons, List.length_nil] <;> omega)) only [sx_ck, xk_s, sx_gI, sx_gA, xg_s, xi_s, xa_s, List.getElem?_cons_zero, List.getElem?_cons_succ, sx_lI, sx_lA, xl_s, xl_v, sx_pI, sx_pA, xp_s, List.set_cons_zero, List.set_cons_succ, sx_sI, sx_sB, sx_sZ, sx_sS, xs_s, sx_cp, xc_s, put_at, put_ne, new_at, new_ne, Option.bind_some, am_b2, sx_len, xn_s, r1]
  have e50 : (50 : Int32) = nI 50 := rfl
  rw [e50]
  have mHard : few P Q = false → ∃ σ' sc, f_Rn_search_j24 F o p1 p2 σ1 = some σ' ∧ RnI σ' o bl P Q sc (rnS B P Q) ∧ Bl σ' bl B ∧ Wz σ' bl ∧ Fr (SaS o bl) σ σ' := by
    intro hfew
    unfold f_Rn_search_j24 f_Rn_pairSameBlobs
    rw [am_ck_of r1, ← nI_0]
    obtain ⟨σ', i1, i2, i3⟩ := Rn_pbAll (F := F) (sc := sc) hVP hVQ hB5 (by omega) hb hp1 hp2 hF F 0 σ1 st0 q2.st0 hB1 hP1 hQ1 (by omega) (by omega)
    rw [i1, Option.bind_some]
    refine ⟨σ', sc, rfl, ?_, hB1.fr i3 fun a _ _ z => by omega, hW1.fr i3 fun z => by omega, (q3.trans i3).mono fun a ha => Or.inl ha⟩
    unfold rnS
    rw [hfew, sqs_all (rsc_01)]
    exact i2
  by_cases c1 : 50 < (gA P Q).length
  · rw [if_pos (nI_lt c1 (by omega))]
    exact mHard (by unfold few; simp; omega)
  · rw [if_neg (nI_nlt (a := 50) (b := (gA P Q).length) (by omega) (by omega))]
    by_cases c2 : (gA Q P).length ≤ 50
    · rw [if_pos (nI_le c2 (by omega))]
      have hfew : few P Q = true := by unfold few; simp; omega
      obtain ⟨σ2, i1, ⟨y1, y2, y3, y4, sc2, y5, y6⟩, i3⟩ := Rn_saAll (F := F) hVP hVQ hB5 (by omega) c2 h8 hb hb1 hb2 hp1 hp2 hF F 0 σ1 ⟨hB1, hW1, hP1, hQ1, sc, q2, fun g' c' _ hor => by omega⟩ (by omega) (by omega)
      obtain ⟨ge', co', ct', pa', ps', ⟨t2, -⟩, -⟩ := id y5
      obtain ⟨σ3, j1, j2, j3⟩ := Rn_byScore (F := F) (bl := bl) (sc := sc2) (f := rsc B P Q true) (fun g c => rsc_le g c) (fun g c hg hc => y6 g c hc (by omega)) (by omega) c2 hl1 hl2 (by omega) (by omega) F 0 σ2 st0 y5.st0 (fun g c v hz => by cases hz) (by omega) (by omega)
      unfold f_Rn_scoreAll f_Rn_pairByScore
      rw [am_ck_of r1, ← nI_0, i1, Option.bind_some, am_ck_of t2, j1, Option.bind_some]
      rw [Nat.sub_zero] at j2
      refine ⟨σ3, sc2, rfl, ?_, y1.fr j3 fun a _ _ z => by omega, y2.fr j3 fun z => by omega, (q3.mono fun a ha => Or.inl ha).trans (i3.trans (j3.mono fun a ha => Or.inl ha))⟩
      unfold rnS
      rw [hfew]
      exact j2
    · rw [if_neg (nI_ge (a := 50) (b := (gA Q P).length) (by omega) (by omega))]
      exact mHard (by unfold few; simp; omega)
theorem Rn_partner {σ : am_S} {sc : Nat → Int32} {s : PSt} (h : RnI σ o bl P Q sc s) (hl : P.length ≤ 400) {k : Nat} (hk : k < P.length) : f_Rn_partnerOf F σ o (nI k) = some (oI (prt P Q s k)) := by
  obtain ⟨ge, co, ct, pa, ps, ⟨r1, r2, r3, r4, r5, r6, r7⟩, g1, g2, g3, g4, g5⟩ := h
  unfold f_Rn_partnerOf
  simp (disch := first | omega | (simp only [List.length_cons, List.length_nil] <;> omega)) only [sx_ck, xk_s, sx_gI, sx_gA, xg_s, xi_s, xa_s, List.getElem?_cons_zero, List.getElem?_cons_succ, sx_lI, sx_lA, xl_s, xl_v, sx_pI, sx_pA, xp_s, List.set_cons_zero, List.set_cons_succ, sx_sI, sx_sB, sx_sZ, sx_sS, xs_s, sx_cp, xc_s, put_at, put_ne, new_at, new_ne, Option.bind_some, am_b2, sx_len, xn_s, r1, r6]
  rw [g4 k hk]
theorem Rn_scoreOf {σ : am_S} {sc : Nat → Int32} {s : PSt} (h : RnI σ o bl P Q sc s) (hl : P.length ≤ 400) {g c v : Nat} (hg : g < (gA P Q).length) (hs : s.1 g = some (c, v)) : f_Rn_scoreOf F σ o (nI (gA P Q)[g]) = some (nI v) := by
  obtain ⟨ge, co, ct, pa, ps, ⟨r1, r2, r3, r4, r5, r6, r7⟩, g1, g2, g3, g4, g5⟩ := h
  have := (gA_get hg).1
  unfold f_Rn_scoreOf
  simp (disch := first | omega | (simp only [List.length_cons, List.length_nil] <;> omega)) only [sx_ck, xk_s, sx_gI, sx_gA, xg_s, xi_s, xa_s, List.getElem?_cons_zero, List.getElem?_cons_succ, sx_lI, sx_lA, xl_s, xl_v, sx_pI, sx_pA, xp_s, List.set_cons_zero, List.set_cons_succ, sx_sI, sx_sB, sx_sZ, sx_sS, xs_s, sx_cp, xc_s, put_at, put_ne, new_at, new_ne, Option.bind_some, am_b2, sx_len, xn_s, r1, r7]
  rw [g5 g hg c v hs]
/-- the GONE that became a COME, in their order -/
def rnl (s : PSt) (G : Nat) : List Nat := flt (fun g => (s.1 g).isSome) G
theorem Rn_goneLoop {σ : am_S} {sc : Nat → Int32} {s : PSt} (h : RnI σ o bl P Q sc s) (hl : P.length ≤ 400) (hl2 : Q.length ≤ 400) (hcl : ∀ g c v, s.1 g = some (c, v) → c < (gA Q P).length) (i : Int32) : ∀ (m g : Nat), g ≤ (gA P Q).length → (i < 0 ∨ (rnl s g).length ≤ i.toNatClampNeg) → (gA P Q).length - g < m →
    f_Rn_goneOfRename_l4 σ F o i m (nI (rnl s g).length) (nI g) = some (oI (if i < 0 then none else ((rnl s (gA P Q).length)[i.toNatClampNeg]?).map fun g => (gA P Q).getD g 0)) := by
  obtain ⟨ge, co, ct, pa, ps, ⟨r1, r2, r3, r4, r5, r6, r7⟩, g1, g2, g3, g4, g5⟩ := h
  have n1 := gA_len (P := P) (Q := Q)
  intro m
  induction m with
  | zero => intro g _ _ h; omega
  | succ m ih =>
    intro g hg0 hi hm
    rw [f_Rn_goneOfRename_l4]
    by_cases hc : (gA P Q).length ≤ g
    · have e : g = (gA P Q).length := by omega
      simp (disch := first | omega | (simp only [List.length_cons, List.length_nil] <;> omega)) only [sx_ck, xk_s, sx_gI, sx_gA, xg_s, xi_s, xa_s, List.getElem?_cons_zero, List.getElem?_cons_succ, sx_lI, sx_lA, xl_s, xl_v, sx_pI, sx_pA, xp_s, List.set_cons_zero, List.set_cons_succ, sx_sI, sx_sB, sx_sZ, sx_sS, xs_s, sx_cp, xc_s, put_at, put_ne, new_at, new_ne, Option.bind_some, am_b2, sx_len, xn_s, r1]
      rw [if_pos (nI_le hc (by omega)), ← e]
      by_cases hn : i < 0
      · rw [if_pos hn]; rfl
      · rw [if_neg hn, List.getElem?_eq_none (by rcases hi with z | z; exact absurd z hn; exact z)]
        rfl
    · have hg : g < (gA P Q).length := by omega
      obtain ⟨k1, k2, k3⟩ := gA_get hg
      have eg := g1 g hg
      have ep := g4 _ k1
      rw [prt_gone hg] at ep
      have hrl := flt_len (fun g => (s.1 g).isSome) g
      have hrl' : (rnl s g).length ≤ g := hrl
      simp (disch := first | omega | (simp only [List.length_cons, List.length_nil] <;> omega)) only [sx_ck, xk_s, sx_gI, sx_gA, xg_s, xi_s, xa_s, List.getElem?_cons_zero, List.getElem?_cons_succ, sx_lI, sx_lA, xl_s, xl_v, sx_pI, sx_pA, xp_s, List.set_cons_zero, List.set_cons_succ, sx_sI, sx_sB, sx_sZ, sx_sS, xs_s, sx_cp, xc_s, put_at, put_ne, new_at, new_ne, Option.bind_some, am_b2, sx_len, xn_s, r1, r2, r6, eg, ep, nI_leI]
      rw [if_neg hc]
      have hsucc := flt_succ (fun g => (s.1 g).isSome) g
      cases hs : s.1 g with
      | none =>
        simp only [Option.map_none]
        rw [if_pos (show oI none < 0 by decide), nI_1]
        have e : rnl s (g + 1) = rnl s g := by
          unfold rnl
          rw [hsucc]
          simp [hs]
        have := ih (g + 1) (by omega) (by rw [e]; exact hi) (by omega)
        rw [e] at this
        exact this
      | some cv =>
        obtain ⟨c, v⟩ := cv
        have hlt := hcl g c v hs
        have hlt2 := (gA_get hlt).1
        simp only [Option.map_some]
        have hp : ¬ oI (some ((gA Q P).getD c 0)) < 0 := by
          rw [gA_getD hlt]
          exact nI_pos (by omega)
        rw [if_neg hp]
        have e : rnl s (g + 1) = rnl s g ++ [g] := by
          unfold rnl
          rw [hsucc]
          simp [hs]
        by_cases he : nI (rnl s g).length = i
        · rw [if_pos he]
          have hn : ¬ i < 0 := by rw [← he]; exact nI_pos (by omega)
          have hcl : i.toNatClampNeg = (rnl s g).length := by rw [← he]; exact nI_clamp (by omega)
          have hix := flt_idx (fun g => (s.1 g).isSome) hg (by simp [hs])
          have hix' : (rnl s (gA P Q).length)[(rnl s g).length]? = some g := hix
          rw [if_neg hn, hcl, hix', Option.map_some, gA_getD hg]
          rfl
        · rw [if_neg he, nI_1, nI_1]
          have := ih (g + 1) (by omega) (by
            rcases hi with z | z
            · exact Or.inl z
            · by_cases hn : i < 0
              · exact Or.inl hn
              · refine Or.inr ?_
                rw [e, List.length_append, List.length_singleton]
                have : (rnl s g).length ≠ i.toNatClampNeg := fun q => he (by rw [q]; exact clamp_nI hn)
                omega) (by omega)
          rw [e, List.length_append, List.length_singleton] at this
          exact this
theorem Rn_gone {σ : am_S} {sc : Nat → Int32} {s : PSt} (h : RnI σ o bl P Q sc s) (hl : P.length ≤ 400) (hl2 : Q.length ≤ 400) (hcl : ∀ g c v, s.1 g = some (c, v) → c < (gA Q P).length) (i : Int32) (hF : 400 < F) : f_Rn_goneOfRename F σ o i = some (oI (if i < 0 then none else ((rnl s (gA P Q).length)[i.toNatClampNeg]?).map fun g => (gA P Q).getD g 0)) := by
  have n1 := gA_len (P := P) (Q := Q)
  have := Rn_goneLoop (F := F) h hl hl2 hcl i F 0 (by omega) (by
    by_cases hn : i < 0
    · exact Or.inl hn
    · exact Or.inr (by simp [rnl, flt_zero])) (by omega)
  obtain ⟨ge, co, ct, pa, ps, ⟨r1, -⟩, -⟩ := h
  unfold f_Rn_goneOfRename
  rw [am_ck_of r1]
  exact this
end RS
