/-! ===== L3: Merging: listing the groups ===== -/
theorem gadd_len (s : GSt) (g : Gp) : (gadd s g).1.length = s.1.length + 1 := by simp [gadd]
theorem gph0_len (B : List (List Int32)) (P0 P1 P2 : PL) : ∀ n, (gph0 B P0 P1 P2 n).1.length ≤ n
  | 0 => Nat.le_refl _
  | n + 1 => by
    have := gph0_len B P0 P1 P2 n
    unfold gph0 at *
    rw [foldl_r']
    generalize List.foldl _ _ (List.range' 0 n) = s at *
    unfold gst0
    rw [gadd_len]
    omega
theorem gph1_len (B : List (List Int32)) (P0 P1 P2 : PL) : ∀ n, (gph1 B P0 P1 P2 n).1.length ≤ P0.length + n
  | 0 => gph0_len B P0 P1 P2 _
  | n + 1 => by
    have := gph1_len B P0 P1 P2 n
    unfold gph1 at *
    rw [foldl_r']
    generalize List.foldl _ _ (List.range' 0 n) = s at *
    unfold gst1
    split
    · omega
    · rw [gadd_len]; omega
theorem gph2_len (B : List (List Int32)) (P0 P1 P2 : PL) : ∀ n, (gph2 B P0 P1 P2 n).1.length ≤ P0.length + P1.length + n
  | 0 => gph1_len B P0 P1 P2 _
  | n + 1 => by
    have := gph2_len B P0 P1 P2 n
    unfold gph2 at *
    rw [foldl_r']
    generalize List.foldl _ _ (List.range' 0 n) = s at *
    unfold gst2
    split
    · omega
    · rw [gadd_len]; omega
section LG
variable {o p0 p1 p2 bl lt sp F : Nat} {B : List (List Int32)} {P0 P1 P2 : PL}
theorem Mg_l7 (h8 : 8 ≤ o) {kk : am_S → Option am_S} : ∀ (m i n : Nat) (σ : am_S) (u1 u2 : Nat → Int32), MgC σ o p0 p1 p2 bl n lt sp → σ.2.2 (o + 1) = some (cZ 400 u1) → σ.2.2 (o + 2) = some (cZ 400 u2) → (∀ k, k < i → u1 k = 0 ∧ u2 k = 0) → i ≤ 400 → 400 - i < m →
    ∃ σ' u1' u2', f_Mg_listGroups_l7 F o kk m (nI i) σ = kk σ' ∧ σ'.2.2 (o + 1) = some (cZ 400 u1') ∧ σ'.2.2 (o + 2) = some (cZ 400 u2') ∧ (∀ k, k < 400 → u1' k = 0 ∧ u2' k = 0) ∧ Fr (fun a => a = o + 1 ∨ a = o + 2) σ σ' := by
  intro m
  induction m with
  | zero => intro i _ _ _ _ _ _ _ _ _ h; omega
  | succ m ih =>
    intro i n σ u1 u2 h0 h1 h2 h3 h4 h5
    rw [f_Mg_listGroups_l7]
    have e4 : (400 : Int32) = nI 400 := rfl
    rw [e4]
    by_cases hi : 400 ≤ i
    · rw [if_pos (nI_le hi (by omega))]
      exact ⟨σ, u1, u2, rfl, h1, h2, fun k hk => h3 k (by omega), Fr.refl _ _⟩
    · rw [if_neg (nI_ge (by omega) (by omega))]
      have h0' := h0
      unfold MgC at h0
      simp (disch := first | omega | (simp only [List.length_cons, List.length_nil] <;> omega)) only [sx_ck, xk_s, sx_gI, sx_gA, xg_s, xi_s, xa_s, List.getElem?_cons_zero, List.getElem?_cons_succ, sx_lI, sx_lA, xl_s, xl_v, sx_pI, sx_pA, xp_s, List.set_cons_zero, List.set_cons_succ, sx_sI, sx_sB, sx_sZ, sx_sS, xs_s, sx_cp, xc_s, put_at, put_ne, new_at, new_ne, Option.bind_some, am_b2, sx_len, xn_s, h0, h1, h2, nI_1]
      generalize hτ : am_put _ _ _ = τ
      have hf : Fr (fun a => a = o + 1 ∨ a = o + 2) σ τ := hτ ▸ ((Fr.refl _ _).p (Or.inl rfl)).p (Or.inr rfl)
      obtain ⟨σ', u1', u2', q1, q2, q3, q4, q5⟩ := ih (i + 1) n τ (uf u1 i (0 &&& 1)) (uf u2 i (0 &&& 1)) (hf.at (by omega) h0') (by subst hτ; simp (disch := omega) only [put_at, put_ne, new_at, new_ne]) (by subst hτ; simp (disch := omega) only [put_at, put_ne, new_at, new_ne]) (fun k hk => by
        by_cases e : k = i
        · subst e; rw [uf_same, uf_same]; exact ⟨by decide, by decide⟩
        · rw [uf_ne e, uf_ne e]; exact h3 k (by omega)) (by omega) (by omega)
      exact ⟨σ', u1', u2', q1, q2, q3, q4, hf.trans q5⟩
theorem Mg_l36 {sc1 sc2 : Nat → Int32} (h8 : 8 ≤ o) (hp0 : p0 + 4 ≤ o) {kk : am_S → Option am_S} (l0 : P0.length ≤ 400) (l1 : P1.length ≤ 400) (l2 : P2.length ≤ 400) : ∀ (m n : Nat) (σ : am_S), Pm σ p0 P0 → RnI σ (o + 6) bl P0 P1 sc1 (rnS B P0 P1) → RnI σ (o + 13) bl P0 P2 sc2 (rnS B P0 P2) → GrI σ o p0 p1 p2 bl lt sp (gph0 B P0 P1 P2 n) → n ≤ P0.length → P0.length - n < m →
    ∃ σ', f_Mg_listGroups_l36 F o kk m (nI n) σ = kk σ' ∧ GrI σ' o p0 p1 p2 bl lt sp (gph0 B P0 P1 P2 P0.length) ∧ Fr (GrS o) σ σ' := by
  intro m
  induction m with
  | zero => intro n _ _ _ _ _ _ h; omega
  | succ m ih =>
    intro n σ hP h1 h2 hG hn hm
    have hlen := gph0_len B P0 P1 P2 n
    obtain ⟨u1, u2, gp, ga, gb, h0, -⟩ := id hG
    unfold MgC at h0
    have hz := Pm_size (F := F) hP
    rw [f_Mg_listGroups_l36]
    simp (disch := first | omega | (simp only [List.length_cons, List.length_nil] <;> omega)) only [sx_ck, xk_s, sx_gI, sx_gA, xg_s, xi_s, xa_s, List.getElem?_cons_zero, List.getElem?_cons_succ, sx_lI, sx_lA, xl_s, xl_v, sx_pI, sx_pA, xp_s, List.set_cons_zero, List.set_cons_succ, sx_sI, sx_sB, sx_sZ, sx_sS, xs_s, sx_cp, xc_s, put_at, put_ne, new_at, new_ne, Option.bind_some, am_b2, sx_len, xn_s, h0, hz]
    by_cases hc : P0.length ≤ n
    · rw [if_pos (nI_le hc (by omega))]
      have e : n = P0.length := by omega
      subst e
      exact ⟨σ, rfl, hG, Fr.refl _ _⟩
    · rw [if_neg (nI_ge (by omega) (by omega))]
      have hn' : n < P0.length := by omega
      have q1 := Rn_partner (F := F) h1 l0 hn'
      have q2 := Rn_partner (F := F) h2 l0 hn'
      obtain ⟨σ1, e1, e2, e3⟩ := Mg_listGroup (F := F) (g := (some n, prt P0 P1 (rnS B P0 P1) n, prt P0 P2 (rnS B P0 P2) n)) hG h8 (by omega) (fun a ha => by have := prt_ok ha; omega) (fun b hb => by have := prt_ok hb; omega)
      have es : gph0 B P0 P1 P2 (n + 1) = gadd (gph0 B P0 P1 P2 n) (some n, prt P0 P1 (rnS B P0 P1) n, prt P0 P2 (rnS B P0 P2) n) := by
        unfold gph0
        rw [foldl_r']
        rfl
      rw [← es] at e2
      obtain ⟨σ', i1, i2, i3⟩ := ih (n + 1) σ1 (hP.fr e3 fun a _ _ => by omega) (h1.fr e3 fun a _ _ => by omega) (h2.fr e3 fun a _ _ => by omega) e2 (by omega) (by omega)
      simp (disch := first | omega | (simp only [List.length_cons, List.length_nil] <;> omega)) only [sx_ck, xk_s, sx_gI, sx_gA, xg_s, xi_s, xa_s, List.getElem?_cons_zero, List.getElem?_cons_succ, sx_lI, sx_lA, xl_s, xl_v, sx_pI, sx_pA, xp_s, List.set_cons_zero, List.set_cons_succ, sx_sI, sx_sB, sx_sZ, sx_sS, xs_s, sx_cp, xc_s, put_at, put_ne, new_at, new_ne, Option.bind_some, am_b2, sx_len, xn_s, q1, q2]
      simp only [oI_some] at e1
      rw [e1, Option.bind_some, nI_1]
      exact ⟨σ', i1, i2, e3.trans i3⟩
theorem Mg_l76 (h8 : 8 ≤ o) (hp1 : p1 + 4 ≤ o) (hp2 : p2 + 4 ≤ o) {kk : am_S → Option am_S} (s1 : Srt P1) (s2 : Srt P2) (hF : 8192 < F) (l0 : P0.length ≤ 400) : ∀ (m n : Nat) (σ : am_S), Pm σ p1 P1 → Pm σ p2 P2 → GrI σ o p0 p1 p2 bl lt sp (gph1 B P0 P1 P2 n) → n ≤ P1.length → P1.length - n < m →
    ∃ σ', f_Mg_listGroups_l76 F o kk m (nI n) σ = kk σ' ∧ GrI σ' o p0 p1 p2 bl lt sp (gph1 B P0 P1 P2 P1.length) ∧ Fr (GrS o) σ σ' := by
  intro m
  induction m with
  | zero => intro n _ _ _ _ _ h; omega
  | succ m ih =>
    intro n σ hP hQ hG hn hm
    have l1 := hP.lt
    have l2 := hQ.lt
    have hlen := gph1_len B P0 P1 P2 n
    obtain ⟨u1, u2, gp, ga, gb, h0, r1, r2, r3, r4, r5, r6, r7⟩ := id hG
    unfold MgC at h0
    have hz := Pm_size (F := F) hP
    have es : gph1 B P0 P1 P2 (n + 1) = gst1 P1 P2 (gph1 B P0 P1 P2 n) n := by
      unfold gph1
      rw [foldl_r']
    rw [f_Mg_listGroups_l76]
    simp (disch := first | omega | (simp only [List.length_cons, List.length_nil] <;> omega)) only [sx_ck, xk_s, sx_gI, sx_gA, xg_s, xi_s, xa_s, List.getElem?_cons_zero, List.getElem?_cons_succ, sx_lI, sx_lA, xl_s, xl_v, sx_pI, sx_pA, xp_s, List.set_cons_zero, List.set_cons_succ, sx_sI, sx_sB, sx_sZ, sx_sS, xs_s, sx_cp, xc_s, put_at, put_ne, new_at, new_ne, Option.bind_some, am_b2, sx_len, xn_s, h0, hz]
    by_cases hc : P1.length ≤ n
    · rw [if_pos (nI_le hc (by omega))]
      have e : n = P1.length := by omega
      subst e
      exact ⟨σ, rfl, hG, Fr.refl _ _⟩
    · rw [if_neg (nI_ge (by omega) (by omega))]
      have hn' : n < P1.length := by omega
      have x1 := (r6 n (by omega)).1
      simp (disch := first | omega | (simp only [List.length_cons, List.length_nil] <;> omega)) only [sx_ck, xk_s, sx_gI, sx_gA, xg_s, xi_s, xa_s, List.getElem?_cons_zero, List.getElem?_cons_succ, sx_lI, sx_lA, xl_s, xl_v, sx_pI, sx_pA, xp_s, List.set_cons_zero, List.set_cons_succ, sx_sI, sx_sB, sx_sZ, sx_sS, xs_s, sx_cp, xc_s, put_at, put_ne, new_at, new_ne, Option.bind_some, am_b2, sx_len, xn_s, r1, x1]
      simp only [bo_0]
      by_cases hu : (gph1 B P0 P1 P2 n).2.1 n = true
      · rw [if_neg (by rw [hu]; decide), nI_1]
        have : gph1 B P0 P1 P2 (n + 1) = gph1 B P0 P1 P2 n := by rw [es]; unfold gst1; rw [if_pos hu]
        exact ih (n + 1) σ hP hQ (by rw [this]; exact hG) (by omega) (by omega)
      · have hu' : (gph1 B P0 P1 P2 n).2.1 n = false := by simpa using hu
        rw [if_pos hu']
        have q := Pm_findPath (F := F) hQ s2 hP s1 hn' hF
        rw [← pth_of hn'] at q
        have fin : ∀ (b : Option Nat), gth P1 P2 (gph1 B P0 P1 P2 n).2.2 n = b → ∃ σ', f_Mg_listGroups_j130 F (nI n) o (-1) (nI n) (oI b) (fun y1 τ => f_Mg_listGroups_l76 F o kk m y1 τ) σ = kk σ' ∧ GrI σ' o p0 p1 p2 bl lt sp (gph1 B P0 P1 P2 P1.length) ∧ Fr (GrS o) σ σ' := by
          intro b hb
          have hbl : ∀ k, b = some k → k < 400 := by
            intro k hk
            rw [hk] at hb
            unfold gth at hb
            split at hb
            · rename_i j hj
              split at hb
              · cases hb
              · cases hb
                have := fnd_lt hj
                omega
            · cases hb
          obtain ⟨σ1, e1, e2, e3⟩ := Mg_listGroup (F := F) (g := (none, some n, b)) hG h8 (by omega) (fun a ha => by cases ha; omega) hbl
          have : gph1 B P0 P1 P2 (n + 1) = gadd (gph1 B P0 P1 P2 n) (none, some n, b) := by rw [es]; unfold gst1; rw [if_neg hu, hb]
          rw [← this] at e2
          obtain ⟨σ', i1, i2, i3⟩ := ih (n + 1) σ1 (hP.fr e3 fun a _ _ => by omega) (hQ.fr e3 fun a _ _ => by omega) e2 (by omega) (by omega)
          unfold f_Mg_listGroups_j130
          simp only [oI_some, oI_none] at e1
          rw [e1, Option.bind_some, nI_1]
          exact ⟨σ', i1, i2, e3.trans i3⟩
        rw [q, Option.bind_some]
        unfold f_Mg_listGroups_j129
        cases hf : fnd P2 (pth P1 n) with
        | none =>
          rw [if_pos (show oI none < 0 by decide)]
          exact fin none (by unfold gth; rw [hf])
        | some b =>
          have hbl := fnd_lt hf
          rw [if_neg (show ¬ oI (some b) < 0 from nI_pos (by omega)), oI_some]
          have x2 := (r6 b (by omega)).2
          simp (disch := first | omega | (simp only [List.length_cons, List.length_nil] <;> omega)) only [sx_ck, xk_s, sx_gI, sx_gA, xg_s, xi_s, xa_s, List.getElem?_cons_zero, List.getElem?_cons_succ, sx_lI, sx_lA, xl_s, xl_v, sx_pI, sx_pA, xp_s, List.set_cons_zero, List.set_cons_succ, sx_sI, sx_sB, sx_sZ, sx_sS, xs_s, sx_cp, xc_s, put_at, put_ne, new_at, new_ne, Option.bind_some, am_b2, sx_len, xn_s, r2, x2]
          simp only [bo_0]
          by_cases hv : (gph1 B P0 P1 P2 n).2.2 b = true
          · rw [if_neg (by rw [hv]; decide)]
            exact fin none (by unfold gth; rw [hf]; simp only; rw [if_pos hv])
          · rw [if_pos (by simpa using hv)]
            exact fin (some b) (by unfold gth; rw [hf]; simp only; rw [if_neg hv])
theorem Mg_l141 (h8 : 8 ≤ o) (hp2 : p2 + 4 ≤ o) (l0 : P0.length ≤ 400) (l1 : P1.length ≤ 400) : ∀ (m n : Nat) (σ : am_S), Pm σ p2 P2 → GrI σ o p0 p1 p2 bl lt sp (gph2 B P0 P1 P2 n) → n ≤ P2.length → P2.length - n < m →
    ∃ σ', f_Mg_listGroups_l141 F o m (nI n) σ = some σ' ∧ GrI σ' o p0 p1 p2 bl lt sp (gph2 B P0 P1 P2 P2.length) ∧ Fr (GrS o) σ σ' := by
  intro m
  induction m with
  | zero => intro n _ _ _ _ h; omega
  | succ m ih =>
    intro n σ hP hG hn hm
    have l2 := hP.lt
    have hlen := gph2_len B P0 P1 P2 n
    obtain ⟨u1, u2, gp, ga, gb, h0, r1, r2, r3, r4, r5, r6, r7⟩ := id hG
    unfold MgC at h0
    have hz := Pm_size (F := F) hP
    have es : gph2 B P0 P1 P2 (n + 1) = gst2 (gph2 B P0 P1 P2 n) n := by
      unfold gph2
      rw [foldl_r']
    rw [f_Mg_listGroups_l141]
    simp (disch := first | omega | (simp only [List.length_cons, List.length_nil] <;> omega)) only [sx_ck, xk_s, sx_gI, sx_gA, xg_s, xi_s, xa_s, List.getElem?_cons_zero, List.getElem?_cons_succ, sx_lI, sx_lA, xl_s, xl_v, sx_pI, sx_pA, xp_s, List.set_cons_zero, List.set_cons_succ, sx_sI, sx_sB, sx_sZ, sx_sS, xs_s, sx_cp, xc_s, put_at, put_ne, new_at, new_ne, Option.bind_some, am_b2, sx_len, xn_s, h0, hz]
    by_cases hc : P2.length ≤ n
    · rw [if_pos (nI_le hc (by omega))]
      have e : n = P2.length := by omega
      subst e
      exact ⟨σ, rfl, hG, Fr.refl _ _⟩
    · rw [if_neg (nI_ge (by omega) (by omega))]
      have hn' : n < P2.length := by omega
      have x1 := (r6 n (by omega)).2
      simp (disch := first | omega | (simp only [List.length_cons, List.length_nil] <;> omega)) only [sx_ck, xk_s, sx_gI, sx_gA, xg_s, xi_s, xa_s, List.getElem?_cons_zero, List.getElem?_cons_succ, sx_lI, sx_lA, xl_s, xl_v, sx_pI, sx_pA, xp_s, List.set_cons_zero, List.set_cons_succ, sx_sI, sx_sB, sx_sZ, sx_sS, xs_s, sx_cp, xc_s, put_at, put_ne, new_at, new_ne, Option.bind_some, am_b2, sx_len, xn_s, r2, x1]
      simp only [bo_0]
      by_cases hu : (gph2 B P0 P1 P2 n).2.2 n = true
      · rw [if_neg (by rw [hu]; decide), nI_1]
        have : gph2 B P0 P1 P2 (n + 1) = gph2 B P0 P1 P2 n := by rw [es]; unfold gst2; rw [if_pos hu]
        exact ih (n + 1) σ hP (by rw [this]; exact hG) (by omega) (by omega)
      · rw [if_pos (by simpa using hu)]
        obtain ⟨σ1, e1, e2, e3⟩ := Mg_listGroup (F := F) (g := (none, none, some n)) hG h8 (by omega) (fun a ha => by cases ha) (fun b hb => by cases hb; omega)
        have : gph2 B P0 P1 P2 (n + 1) = gadd (gph2 B P0 P1 P2 n) (none, none, some n) := by rw [es]; unfold gst2; rw [if_neg hu]
        rw [← this] at e2
        obtain ⟨σ', i1, i2, i3⟩ := ih (n + 1) σ1 (hP.fr e3 fun a _ _ => by omega) e2 (by omega) (by omega)
        simp only [oI_some, oI_none] at e1
        rw [e1, Option.bind_some, nI_1]
        exact ⟨σ', i1, i2, e3.trans i3⟩
theorem Mg_listGroups {σ : am_S} {sc1 sc2 u1 u2 gp ga gb : Nat → Int32} {n : Nat} (h8 : 8 ≤ o) (hp0 : p0 + 4 ≤ o) (hp1 : p1 + 4 ≤ o) (hp2 : p2 + 4 ≤ o) (s1 : Srt P1) (s2 : Srt P2) (hF : 8192 < F) (hP0 : Pm σ p0 P0) (hP1 : Pm σ p1 P1) (hP2 : Pm σ p2 P2) (hR1 : RnI σ (o + 6) bl P0 P1 sc1 (rnS B P0 P1)) (hR2 : RnI σ (o + 13) bl P0 P2 sc2 (rnS B P0 P2))
    (h0 : MgC σ o p0 p1 p2 bl n lt sp) (h1 : σ.2.2 (o + 1) = some (cZ 400 u1)) (h2 : σ.2.2 (o + 2) = some (cZ 400 u2)) (h3 : σ.2.2 (o + 3) = some (cI 1200 gp)) (h4 : σ.2.2 (o + 4) = some (cI 1200 ga)) (h5 : σ.2.2 (o + 5) = some (cI 1200 gb)) :
    ∃ σ', f_Mg_listGroups F σ o = some σ' ∧ GrI σ' o p0 p1 p2 bl lt sp (gph2 B P0 P1 P2 P2.length) ∧ Fr (GrS o) σ σ' := by
  have l0 := hP0.lt
  have l1 := hP1.lt
  have l2 := hP2.lt
  unfold MgC at h0
  unfold f_Mg_listGroups
  simp (disch := first | omega | (simp only [List.length_cons, List.length_nil] <;> omega)) only [sx_ck, xk_s, sx_gI, sx_gA, xg_s, xi_s, xa_s, List.getElem?_cons_zero, List.getElem?_cons_succ, sx_lI, sx_lA, xl_s, xl_v, sx_pI, sx_pA, xp_s, List.set_cons_zero, List.set_cons_succ, sx_sI, sx_sB, sx_sZ, sx_sS, xs_s, sx_cp, xc_s, put_at, put_ne, new_at, new_ne, Option.bind_some, am_b2, sx_len, xn_s, h0]
  generalize hτ : am_put _ _ _ = τ
  have hf : Fr (GrS o) σ τ := hτ ▸ (Fr.refl _ _).p ⟨by omega, by omega⟩
  have t0 : MgC τ o p0 p1 p2 bl 0 lt sp := by unfold MgC; subst hτ; simp (disch := omega) only [put_at, put_ne, new_at, new_ne] <;> rfl
  obtain ⟨σ1, v1, v2, a1, a2, a3, a4, a5⟩ := Mg_l7 (F := F) h8 (kk := fun τ => f_Mg_listGroups_j34 F o τ) F 0 0 τ u1 u2 t0 (by subst hτ; simp (disch := omega) only [put_at, put_ne, new_at, new_ne, h1]) (by subst hτ; simp (disch := omega) only [put_at, put_ne, new_at, new_ne, h2]) (fun _ h => by omega) (by omega) (by omega)
  have W1 : Fr (GrS o) σ σ1 := hf.trans (a5.mono fun a ha => ⟨by omega, by omega⟩)
  have b3 : σ1.2.2 (o + 3) = some (cI 1200 gp) := a5.at (by omega) (by subst hτ; simp (disch := omega) only [put_at, put_ne, new_at, new_ne, h3])
  have b4 : σ1.2.2 (o + 4) = some (cI 1200 ga) := a5.at (by omega) (by subst hτ; simp (disch := omega) only [put_at, put_ne, new_at, new_ne, h4])
  have b5 : σ1.2.2 (o + 5) = some (cI 1200 gb) := a5.at (by omega) (by subst hτ; simp (disch := omega) only [put_at, put_ne, new_at, new_ne, h5])
  have G1 : GrI σ1 o p0 p1 p2 bl lt sp (gph0 B P0 P1 P2 0) := ⟨v1, v2, gp, ga, gb, a5.at (by omega) t0, a2, a3, b3, b4, b5, fun k hk => ⟨(a4 k hk).1, (a4 k hk).2⟩, fun k hk => absurd hk (by simp [gph0, gs0])⟩
  obtain ⟨σ2, c1, c2, c3⟩ := Mg_l36 (F := F) h8 hp0 l0 l1 l2 (kk := fun τ => f_Mg_listGroups_j74 F o τ) F 0 σ1 (hP0.fr W1 fun a _ _ => by omega) (hR1.fr W1 fun a _ _ => by omega) (hR2.fr W1 fun a _ _ => by omega) G1 (by omega) (by omega)
  have W2 := W1.trans c3
  obtain ⟨σ3, d1, d2, d3⟩ := Mg_l76 (F := F) (B := B) (P0 := P0) h8 hp1 hp2 s1 s2 hF l0 (kk := fun τ => f_Mg_listGroups_j139 F o τ) F 0 σ2 (hP1.fr W2 fun a _ _ => by omega) (hP2.fr W2 fun a _ _ => by omega) c2 (by omega) (by omega)
  have W3 := W2.trans d3
  obtain ⟨σ4, e1, e2, e3⟩ := Mg_l141 (F := F) (B := B) (P0 := P0) (P1 := P1) h8 hp2 l0 l1 F 0 σ3 (hP2.fr W3 fun a _ _ => by omega) d2 (by omega) (by omega)
  refine ⟨σ4, ?_, e2, W3.trans e3⟩
  rw [← nI_0, a1]
  unfold f_Mg_listGroups_j34
  rw [← nI_0, c1]
  unfold f_Mg_listGroups_j74
  rw [← nI_0, d1]
  unfold f_Mg_listGroups_j139
  rw [← nI_0, e1]
end LG
