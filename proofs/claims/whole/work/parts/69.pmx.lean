/-! ===== L3: PathMap: removing, copying, clearing ===== -/
def delP (P : PL) (k : Nat) : PL := P.take k ++ P.drop (k + 1)
theorem delP_len {P : PL} {k : Nat} (hk : k < P.length) : (delP P k).length = P.length - 1 := by
  simp [delP]; omega
theorem delP_take {P : PL} {k j : Nat} (hk : k < P.length) : pl ((delP P k).take j) = if j ≤ k then pl (P.take j) else pl (P.take (j + 1)) - P[k].1.length := by
  unfold delP
  have hl : (P.take k).length = k := by simp; omega
  by_cases h : j ≤ k
  · rw [if_pos h, List.take_append_of_le_length (by omega), List.take_take, Nat.min_eq_left h]
  · rw [if_neg h, List.take_append, hl, pl_app, List.take_of_length_le (by omega)]
    have e1 : P.take (j + 1) = P.take (k + 1) ++ (P.drop (k + 1)).take (j - k) := by
      rw [show j + 1 = k + 1 + (j - k) by omega, List.take_add]
    rw [e1, pl_app, pl_take_succ hk]
    omega
theorem delP_pl {P : PL} {k : Nat} (hk : k < P.length) : pl (delP P k) = pl P - P[k].1.length := by
  unfold delP
  have h := pl_split P (k + 1)
  rw [pl_app, h, pl_take_succ hk]
  omega
theorem delP_getq {P : PL} {k i : Nat} (hk : k < P.length) : (delP P k)[i]? = if i < k then P[i]? else P[i + 1]? := by
  have hl : (P.take k).length = k := by simp; omega
  unfold delP
  by_cases h : i < k
  · rw [if_pos h, List.getElem?_append_left (by omega), List.getElem?_take, if_pos h]
  · rw [if_neg h, List.getElem?_append_right (by omega), hl, List.getElem?_drop, show k + 1 + (i - k) = i + 1 by omega]
section PX
variable {o F : Nat} {P : PL} {k n : Nat}
theorem Pm_delLoop {ls : Nat → Int32} {sz : Nat} (h8 : 8 ≤ o) (hz : sz < 400) : ∀ (m i : Nat) (σ : am_S) (S V : Nat → Int32), PmR σ o ls S V sz → k ≤ i → i ≤ sz → sz - i < m →
    ∃ σ' S' V', f_Pm_removeAt_l61 F o (nI n) m (nI i) σ = some σ' ∧ PmR σ' o ls S' V' sz ∧ Fr (PmS o) σ σ' ∧ (∀ j, S' j = if i + 1 ≤ j ∧ j ≤ sz then S (j + 1) - nI n else S j) ∧ ∀ j, V' j = if i ≤ j ∧ j < sz then V (j + 1) else V j := by
  intro m
  induction m with
  | zero => intro i _ _ _ _ _ _ h; omega
  | succ m ih =>
    intro i σ S V hR h1 h2 h3
    obtain ⟨r1, r2, r3, r4⟩ := id hR
    rw [f_Pm_removeAt_l61]
    by_cases hc : sz ≤ i
    · simp (disch := first | omega | (simp only [List.length_cons, List.length_nil] <;> omega)) only [sx_ck, xk_s, sx_gI, sx_gA, xg_s, xi_s, xa_s, List.getElem?_cons_zero, List.getElem?_cons_succ, sx_lI, sx_lA, xl_s, xl_v, sx_pI, sx_pA, xp_s, List.set_cons_zero, List.set_cons_succ, sx_sI, sx_sB, sx_sZ, sx_sS, xs_s, sx_cp, xc_s, put_at, put_ne, new_at, new_ne, Option.bind_some, am_b2, sx_len, xn_s, r1]
      rw [if_pos (nI_le hc (by omega))]
      exact ⟨σ, S, V, rfl, hR, Fr.refl _ _, fun j => by rw [if_neg (by omega)], fun j => by rw [if_neg (by omega)]⟩
    · simp (disch := first | omega | (simp only [List.length_cons, List.length_nil] <;> omega)) only [sx_ck, xk_s, sx_gI, sx_gA, xg_s, xi_s, xa_s, List.getElem?_cons_zero, List.getElem?_cons_succ, sx_lI, sx_lA, xl_s, xl_v, sx_pI, sx_pA, xp_s, List.set_cons_zero, List.set_cons_succ, sx_sI, sx_sB, sx_sZ, sx_sS, xs_s, sx_cp, xc_s, put_at, put_ne, new_at, new_ne, Option.bind_some, am_b2, sx_len, xn_s, r1, r2, r3, r4, nI_1, nI_addL]
      rw [if_neg (nI_ge (by omega) (by omega))]
      generalize hτ : am_put _ _ _ = τ
      obtain ⟨σ', S', V', q1, q2, q3, q4, q5⟩ := ih (i + 1) τ _ _ ⟨by subst hτ; simp (disch := omega) only [put_at, put_ne, new_at, new_ne, r1], by subst hτ; simp (disch := omega) only [put_at, put_ne, new_at, new_ne, r2], at_ne hτ (by omega) (put_at _ _ _), at_top hτ⟩ (by omega) (by omega) (by omega)
      refine ⟨σ', S', V', q1, q2, (hτ ▸ ((Fr.refl _ _).p ⟨by omega, by omega⟩).p ⟨by omega, by omega⟩ : Fr (PmS o) σ τ).trans q3, fun j => ?_, fun j => ?_⟩
      · rw [q4 j]
        by_cases c1 : i + 1 + 1 ≤ j ∧ j ≤ sz
        · rw [if_pos c1, if_pos (by omega), uf_ne (by omega)]
        · rw [if_neg c1]
          by_cases c2 : j = i + 1
          · rw [if_pos (by omega), c2, uf_same]
          · rw [if_neg (by omega), uf_ne c2]
      · rw [q5 j]
        by_cases c1 : i + 1 ≤ j ∧ j < sz
        · rw [if_pos c1, if_pos (by omega), uf_ne (by omega)]
        · rw [if_neg c1]
          by_cases c2 : j = i
          · rw [if_pos (by omega), c2, uf_same]
          · rw [if_neg (by omega), uf_ne c2]
variable {σ : am_S}
theorem Pm_remove (h : Pm σ o P) (h8 : 8 ≤ o) (hk : k < P.length) (hF : 8192 < F) : ∃ σ', f_Pm_removeAt F σ o (nI k) = some σ' ∧ Pm σ' o (delP P k) ∧ Fr (PmS o) σ σ' := by
  have hlen := Pm_length (F := F) h hk
  obtain ⟨ls, ss, vs, ⟨r1, r2, r3, r4⟩, hw⟩ := h
  have hltr := hw.ltrE
  obtain ⟨w1, w2, w3, w4, w5⟩ := hw
  have hsp := pl_split P (k + 1)
  have hsu := pl_take_succ hk
  unfold f_Pm_removeAt
  simp (disch := first | omega | (simp only [List.length_cons, List.length_nil] <;> omega)) only [sx_ck, xk_s, sx_gI, sx_gA, xg_s, xi_s, xa_s, List.getElem?_cons_zero, List.getElem?_cons_succ, sx_lI, sx_lA, xl_s, xl_v, sx_pI, sx_pA, xp_s, List.set_cons_zero, List.set_cons_succ, sx_sI, sx_sB, sx_sZ, sx_sS, xs_s, sx_cp, xc_s, put_at, put_ne, new_at, new_ne, Option.bind_some, am_b2, sx_len, xn_s, r1, r2, r3, r4, hlen, nI_1, w4]
  rw [List.take_length, nI_sub (by omega)]
  have e1 : nI P.length - 1 = nI (P.length - 1) := nI_sub (a := P.length) (b := 1) (by omega)
  simp (disch := first | omega | (simp only [List.length_cons, List.length_nil] <;> omega)) only [sx_ck, xk_s, sx_gI, sx_gA, xg_s, xi_s, xa_s, List.getElem?_cons_zero, List.getElem?_cons_succ, sx_lI, sx_lA, xl_s, xl_v, sx_pI, sx_pA, xp_s, List.set_cons_zero, List.set_cons_succ, sx_sI, sx_sB, sx_sZ, sx_sS, xs_s, sx_cp, xc_s, put_at, put_ne, new_at, new_ne, Option.bind_some, am_b2, sx_len, xn_s, r1, r2, r3, r4, e1]
  generalize hτ : am_put _ _ _ = τ
  obtain ⟨σ', S', V', q1, q2, q3, q4, q5⟩ := Pm_delLoop (k := k) (n := P[k].1.length) (F := F) (sz := P.length - 1) h8 (by omega) F k τ ss vs ⟨at_top hτ, at_ne hτ (by omega) (put_at _ _ _), by subst hτ; simp (disch := omega) only [put_at, put_ne, new_at, new_ne, r3], by subst hτ; simp (disch := omega) only [put_at, put_ne, new_at, new_ne, r4]⟩ (Nat.le_refl _) (by omega) (by omega)
  have hfr : Fr (PmS o) σ τ := hτ ▸ ((Fr.refl _ _).p ⟨by omega, by omega⟩).p ⟨by omega, by omega⟩
  refine ⟨σ', q1, ⟨_, S', V', by rw [delP_len hk]; exact q2, ?_, ?_, ?_, ?_, ?_⟩, hfr.trans q3⟩
  · rw [delP_len hk]; omega
  · rw [delP_pl hk]; omega
  · rw [← ltr_len]
    apply sli_full.mpr
    rw [ltr_len, delP_pl hk, show pl P - P[k].1.length = pl (P.take k) + pl (P.drop (k + 1)) by omega, sli_app]
    have eA : sli ls 0 (pl (P.take k)) = ltr (P.take k) ∧ sli ls (pl (P.take (k + 1))) (pl (P.drop (k + 1))) = ltr (P.drop (k + 1)) := by
      have e0 : ltr P = ltr (P.take k) ++ (P[k].1 ++ ltr (P.drop (k + 1))) := by
        conv => lhs; rw [← List.take_append_drop k P]
        rw [ltr_app, List.drop_eq_getElem_cons hk, ltr_cons]
      rw [show pl P = pl (P.take k) + (P[k].1.length + pl (P.drop (k + 1))) by omega, sli_app, sli_app, e0] at hltr
      obtain ⟨z1, z2⟩ := List.append_inj hltr (by rw [sli_len, ltr_len])
      obtain ⟨z3, z4⟩ := List.append_inj z2 (by rw [sli_len])
      rw [Nat.zero_add] at z4
      rw [hsu]
      exact ⟨z1, z4⟩
    rw [sli_cpy_ne (by omega), eA.1, Nat.zero_add, show pl P - pl (P.take (k + 1)) = pl (P.drop (k + 1)) by omega, sli_cpy, eA.2]
    unfold delP
    rw [ltr_app]
  · intro j hj
    rw [delP_len hk] at hj
    rw [delP_take hk, q4 j]
    by_cases c2 : j ≤ k
    · rw [if_pos c2, if_neg (by omega), w4 j (by omega)]
    · rw [if_neg c2, if_pos (by omega), w4 _ (by omega), nI_sub]
      have := pl_split (P.take (j + 1)) (k + 1)
      rw [List.take_take, Nat.min_eq_left (by omega)] at this
      omega
  · intro j hj
    have hg := delP_getq (i := j) hk
    rw [List.getElem?_eq_getElem hj] at hg
    rw [delP_len hk] at hj
    rw [q5 j]
    by_cases c2 : j < k
    · rw [if_pos c2, List.getElem?_eq_getElem (by omega)] at hg
      rw [if_neg (by omega), w5 j (by omega), Option.some.inj hg]
    · rw [if_neg c2, List.getElem?_eq_getElem (by omega)] at hg
      rw [if_pos (by omega), w5 _ (by omega), Option.some.inj hg]
theorem cpy_self (f : Nat → Int32) (n : Nat) : va_cpy f f 0 0 n = f := by
  funext j
  unfold va_cpy
  split
  · congr 1
    omega
  · rfl
theorem Pm_become {o2 : Nat} {Q : PL} (h : Pm σ o P) (h8 : 8 ≤ o) (h' : Pm σ o2 Q) (hne : o2 = o ∨ o + 4 ≤ o2 ∨ o2 + 4 ≤ o) : ∃ σ', f_Pm_become F σ o o2 = some σ' ∧ Pm σ' o Q ∧ Fr (PmS o) σ σ' := by
  obtain ⟨ls, ss, vs, ⟨r1, r2, r3, r4⟩, -⟩ := h
  obtain ⟨ls', ss', vs', ⟨t1, t2, t3, t4⟩, hw⟩ := h'
  obtain ⟨w1, w2, w3, w4, w5⟩ := id hw
  have e1 : ss' Q.length = nI (pl Q) := by rw [w4 _ (Nat.le_refl _), List.take_length]
  unfold f_Pm_become
  rw [← nI_0]
  rcases hne with hne | hne
  · subst hne
    simp (disch := first | omega | (simp only [List.length_cons, List.length_nil] <;> omega)) only [sx_ck, xk_s, sx_gI, sx_gA, xg_s, xi_s, xa_s, List.getElem?_cons_zero, List.getElem?_cons_succ, sx_lI, sx_lA, xl_s, xl_v, sx_pI, sx_pA, xp_s, List.set_cons_zero, List.set_cons_succ, sx_sI, sx_sB, sx_sZ, sx_sS, xs_s, sx_cp, xc_s, put_at, put_ne, new_at, new_ne, Option.bind_some, am_b2, sx_len, xn_s, t1, t2, t3, t4, e1, nI_1, cpy_self]
    exact ⟨_, rfl, ⟨ls', ss', vs', ⟨by simp (disch := omega) only [put_at, put_ne, new_at, new_ne], by simp (disch := omega) only [put_at, put_ne, new_at, new_ne], by simp (disch := omega) only [put_at, put_ne, new_at, new_ne], by simp (disch := omega) only [put_at, put_ne, new_at, new_ne]⟩, hw⟩, ((((Fr.refl _ _).p ⟨by omega, by omega⟩).p ⟨by omega, by omega⟩).p ⟨by omega, by omega⟩).p ⟨by omega, by omega⟩⟩
  · simp (disch := first | omega | (simp only [List.length_cons, List.length_nil] <;> omega)) only [sx_ck, xk_s, sx_gI, sx_gA, xg_s, xi_s, xa_s, List.getElem?_cons_zero, List.getElem?_cons_succ, sx_lI, sx_lA, xl_s, xl_v, sx_pI, sx_pA, xp_s, List.set_cons_zero, List.set_cons_succ, sx_sI, sx_sB, sx_sZ, sx_sS, xs_s, sx_cp, xc_s, put_at, put_ne, new_at, new_ne, Option.bind_some, am_b2, sx_len, xn_s, t1, t2, t3, t4, r1, r2, r3, r4, e1, nI_1]
    refine ⟨_, rfl, ⟨_, _, _, ⟨by simp (disch := omega) only [put_at, put_ne, new_at, new_ne], by simp (disch := omega) only [put_at, put_ne, new_at, new_ne]; rfl, by simp (disch := omega) only [put_at, put_ne, new_at, new_ne]; rfl, by simp (disch := omega) only [put_at, put_ne, new_at, new_ne]; rfl⟩, w1, w2, ?_, ?_, ?_⟩, ((((Fr.refl _ _).p ⟨by omega, by omega⟩).p ⟨by omega, by omega⟩).p ⟨by omega, by omega⟩).p ⟨by omega, by omega⟩⟩
    · intro j hj
      rw [w3 j hj]
      unfold va_cpy
      rw [if_pos (by omega)]
      congr 2
      omega
    · intro j hj
      rw [← w4 j hj]
      unfold va_cpy
      rw [if_pos (by omega)]
      congr 1
      omega
    · intro j hj
      rw [← w5 j hj]
      unfold va_cpy
      rw [if_pos (by omega)]
      congr 1
      omega
theorem Pm_clear (h : Pm σ o P) (h8 : 8 ≤ o) : ∃ σ', f_Pm_clear F σ o = some σ' ∧ Pm σ' o [] ∧ Fr (PmS o) σ σ' := by
  obtain ⟨ls, ss, vs, ⟨r1, r2, r3, r4⟩, w1, w2, w3, w4, w5⟩ := h
  have e0 : ss 0 = nI 0 := by rw [w4 0 (by omega)]; rfl
  unfold f_Pm_clear
  simp (disch := first | omega | (simp only [List.length_cons, List.length_nil] <;> omega)) only [sx_ck, xk_s, sx_gI, sx_gA, xg_s, xi_s, xa_s, List.getElem?_cons_zero, List.getElem?_cons_succ, sx_lI, sx_lA, xl_s, xl_v, sx_pI, sx_pA, xp_s, List.set_cons_zero, List.set_cons_succ, sx_sI, sx_sB, sx_sZ, sx_sS, xs_s, sx_cp, xc_s, put_at, put_ne, new_at, new_ne, Option.bind_some, am_b2, sx_len, xn_s, r1]
  exact ⟨_, rfl, ⟨ls, ss, vs, ⟨by simp (disch := omega) only [put_at, put_ne, new_at, new_ne]; rfl, by simp (disch := omega) only [put_at, put_ne, new_at, new_ne, r2], by simp (disch := omega) only [put_at, put_ne, new_at, new_ne, r3], by simp (disch := omega) only [put_at, put_ne, new_at, new_ne, r4]⟩, by simp, by simp [pl_nil], fun j hj => absurd hj (by simp [pl_nil]), fun j hj => by
    have : j = 0 := by simpa using hj
    subst this
    exact e0, fun j hj => absurd hj (by simp)⟩, (Fr.refl _ _).p ⟨by omega, by omega⟩⟩
end PX
