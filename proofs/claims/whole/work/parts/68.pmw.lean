/-! ===== L3: PathMap, what is written ===== -/
def insP (P : PL) (k : Nat) (e : List Int32 × Int32) : PL := P.take k ++ e :: P.drop k
theorem insP_len {P : PL} {k : Nat} (hk : k ≤ P.length) (e : List Int32 × Int32) : (insP P k e).length = P.length + 1 := by
  simp [insP]; omega
theorem insP_take {P : PL} {k j : Nat} (hk : k ≤ P.length) (e : List Int32 × Int32) : pl ((insP P k e).take j) = if j ≤ k then pl (P.take j) else pl (P.take (j - 1)) + e.1.length := by
  unfold insP
  have hl : (P.take k).length = k := by simp; omega
  by_cases h : j ≤ k
  · rw [if_pos h, List.take_append_of_le_length (by omega), List.take_take, Nat.min_eq_left h]
  · rw [if_neg h, List.take_append, hl, pl_app, List.take_of_length_le (by omega)]
    obtain ⟨d, hd⟩ : ∃ d, j - k = d + 1 := ⟨j - k - 1, by omega⟩
    rw [hd, List.take_succ_cons, pl_cons]
    have e1 : P.take (j - 1) = P.take k ++ (P.drop k).take d := by
      rw [show j - 1 = k + d by omega, List.take_add]
    rw [e1, pl_app]
    omega
theorem insP_pl {P : PL} {k : Nat} (hk : k ≤ P.length) (e : List Int32 × Int32) : pl (insP P k e) = pl P + e.1.length := by
  have h := insP_take (j := P.length + 1) hk e
  rw [if_neg (by omega), List.take_of_length_le (by rw [insP_len hk]; omega), List.take_of_length_le (by omega)] at h
  exact h
theorem insP_getq {P : PL} {k i : Nat} (hk : k ≤ P.length) (e : List Int32 × Int32) : (insP P k e)[i]? = if i < k then P[i]? else if i = k then some e else P[i - 1]? := by
  have hl : (P.take k).length = k := by simp; omega
  unfold insP
  by_cases h : i < k
  · rw [if_pos h, List.getElem?_append_left (by omega), List.getElem?_take, if_pos h]
  · rw [if_neg h, List.getElem?_append_right (by omega), hl]
    by_cases h' : i = k
    · rw [if_pos h', h', Nat.sub_self]
      rfl
    · rw [if_neg h']
      obtain ⟨d, hd⟩ : ∃ d, i - k = d + 1 := ⟨i - k - 1, by omega⟩
      rw [hd, List.getElem?_cons_succ, List.getElem?_drop, show i - 1 = k + d by omega]
theorem insP_get {P : PL} {k i : Nat} (hk : k ≤ P.length) (e : List Int32 × Int32) (hi : i < (insP P k e).length) : (insP P k e)[i] = if h : i < k then P[i]'(by omega) else if h' : i = k then e else P[i - 1]'(by rw [insP_len hk] at hi; omega) := by
  have h := insP_getq (i := i) hk e
  have hi' := hi
  rw [insP_len hk] at hi'
  rw [List.getElem?_eq_getElem hi] at h
  apply Option.some.inj
  rw [h]
  by_cases c1 : i < k
  · rw [if_pos c1, dif_pos c1, List.getElem?_eq_getElem]
  · rw [if_neg c1, dif_neg c1]
    by_cases c2 : i = k
    · rw [if_pos c2, dif_pos c2]
    · rw [if_neg c2, dif_neg c2, List.getElem?_eq_getElem]
theorem pl_get_le {P : PL} {k : Nat} (hk : k < P.length) : pl (P.take k) + P[k].1.length ≤ pl P := by
  have h1 := pl_take_succ hk
  have h2 := pl_split P (k + 1)
  omega
theorem pl_take_le (P : PL) (k : Nat) : pl (P.take k) ≤ pl P := by
  have h2 := pl_split P k
  omega
section PW
variable {o F : Nat} {P : PL} {b N st n k : Nat} {g : Nat → Int32}
theorem Pm_insLoop {ls : Nat → Int32} {sz : Nat} {kk : am_S → Option am_S} (h8 : 8 ≤ o) : ∀ (m i : Nat) (σ : am_S) (S V : Nat → Int32), PmR σ o ls S V sz → k ≤ i → i < 400 → i - k < m →
    ∃ σ' S' V', f_Pm_insertAt_l57 F o (nI k) (nI n) kk m (nI i) σ = kk σ' ∧ PmR σ' o ls S' V' sz ∧ Fr (PmS o) σ σ' ∧ (∀ j, S' j = if k + 2 ≤ j ∧ j ≤ i + 1 then S (j - 1) + nI n else S j) ∧ ∀ j, V' j = if k + 1 ≤ j ∧ j ≤ i then V (j - 1) else V j := by
  intro m
  induction m with
  | zero => intro i _ _ _ _ _ _ h; omega
  | succ m ih =>
    intro i σ S V hR h1 h2 h3
    obtain ⟨r1, r2, r3, r4⟩ := id hR
    rw [f_Pm_insertAt_l57]
    simp (disch := omega) only [nI_leI]
    by_cases hc : i ≤ k
    · rw [if_pos hc]
      exact ⟨σ, S, V, rfl, hR, Fr.refl _ _, fun j => by rw [if_neg (by omega)], fun j => by rw [if_neg (by omega)]⟩
    · rw [if_neg hc]
      obtain ⟨d, rfl⟩ : ∃ d, i = d + 1 := ⟨i - 1, by omega⟩
      have e1 : nI (d + 1) + (-1) = nI d := by
        rw [nI_succ, Int32.add_assoc]
        simp
      simp (disch := first | omega | (simp only [List.length_cons, List.length_nil] <;> omega)) only [sx_ck, xk_s, sx_gI, sx_gA, xg_s, xi_s, xa_s, List.getElem?_cons_zero, List.getElem?_cons_succ, sx_lI, sx_lA, xl_s, xl_v, sx_pI, sx_pA, xp_s, List.set_cons_zero, List.set_cons_succ, sx_sI, sx_sB, sx_sZ, sx_sS, xs_s, sx_cp, xc_s, put_at, put_ne, new_at, new_ne, Option.bind_some, am_b2, sx_len, xn_s, r1, r2, r3, r4, nI_1, nI_pred, e1]
      generalize hτ : am_put _ _ _ = τ
      obtain ⟨σ', S', V', q1, q2, q3, q4, q5⟩ := ih d τ (uf S (d + 1 + 1) (S (d + 1) + nI n)) (uf V (d + 1) (V d)) ⟨by subst hτ; simp (disch := omega) only [put_at, put_ne, new_at, new_ne, r1], by subst hτ; simp (disch := omega) only [put_at, put_ne, new_at, new_ne, r2], by subst hτ; simp (disch := omega) only [put_at, put_ne, new_at, new_ne], by subst hτ; simp (disch := omega) only [put_at, put_ne, new_at, new_ne]⟩ (by omega) (by omega) (by omega)
      refine ⟨σ', S', V', q1, q2, (hτ ▸ ((Fr.refl _ _).p ⟨by omega, by omega⟩).p ⟨by omega, by omega⟩ : Fr (PmS o) σ τ).trans q3, fun j => ?_, fun j => ?_⟩
      · rw [q4 j]
        by_cases c1 : k + 2 ≤ j ∧ j ≤ d + 1
        · rw [if_pos c1, if_pos (by omega), uf_ne (by omega)]
        · rw [if_neg c1]
          by_cases c2 : j = d + 1 + 1
          · rw [if_pos (by omega), c2, uf_same]; rfl
          · rw [if_neg (by omega), uf_ne c2]
      · rw [q5 j]
        by_cases c1 : k + 1 ≤ j ∧ j ≤ d
        · rw [if_pos c1, if_pos (by omega), uf_ne (by omega)]
        · rw [if_neg c1]
          by_cases c2 : j = d + 1
          · rw [if_pos (by omega), c2, uf_same]; rfl
          · rw [if_neg (by omega), uf_ne c2]
theorem Pm_ins {σ : am_S} {ls ss vs : Nat → Int32} (h8 : 8 ≤ o) (hR : PmR σ o ls ss vs P.length) (hw : PmW P ls ss vs) (hk : k ≤ P.length) (hl : P.length < 400) (hp : pl P + n ≤ 8192) (hb : σ.2.2 b = some (cB N g)) (hbo : ¬ (o ≤ b ∧ b < o + 4)) (hn : st + n ≤ N) (hN : N < 2 ^ 31) (hF : 8192 < F) :
    ∃ σ' ls' ss' vs', f_Pm_insertAt F σ o (nI k) b (nI st) (nI n) = some σ' ∧ Fr (PmS o) σ σ' ∧ PmR σ' o ls' ss' vs' (P.length + 1) ∧ ∀ v, PmW (insP P k (sli g st n, v)) ls' ss' (uf vs' k v) := by
  have hltr := hw.ltrE
  obtain ⟨r1, r2, r3, r4⟩ := hR
  obtain ⟨w1, w2, w3, w4, w5⟩ := hw
  have hsp := pl_split P k
  unfold f_Pm_insertAt
  simp (disch := first | omega | (simp only [List.length_cons, List.length_nil] <;> omega)) only [sx_ck, xk_s, sx_gI, sx_gA, xg_s, xi_s, xa_s, List.getElem?_cons_zero, List.getElem?_cons_succ, sx_lI, sx_lA, xl_s, xl_v, sx_pI, sx_pA, xp_s, List.set_cons_zero, List.set_cons_succ, sx_sI, sx_sB, sx_sZ, sx_sS, xs_s, sx_cp, xc_s, put_at, put_ne, new_at, new_ne, Option.bind_some, am_b2, sx_len, xn_s, r1, r2, r3, r4, w4]
  rw [List.take_length, nI_sub (by omega), nI_add]
  simp (disch := first | omega | (simp only [List.length_cons, List.length_nil] <;> omega)) only [sx_ck, xk_s, sx_gI, sx_gA, xg_s, xi_s, xa_s, List.getElem?_cons_zero, List.getElem?_cons_succ, sx_lI, sx_lA, xl_s, xl_v, sx_pI, sx_pA, xp_s, List.set_cons_zero, List.set_cons_succ, sx_sI, sx_sB, sx_sZ, sx_sS, xs_s, sx_cp, xc_s, put_at, put_ne, new_at, new_ne, Option.bind_some, am_b2, sx_len, xn_s, r1, r2, r3, r4, hb]
  generalize hτ : am_put _ _ _ = τ
  obtain ⟨σ', S', V', q1, ⟨q21, q22, q23, q24⟩, q3, q4, q5⟩ := Pm_insLoop (k := k) (n := n) (F := F) (sz := P.length) (kk := fun τ => f_Pm_insertAt_j104 F o (nI k) (nI n) (nI (pl (List.take k P))) τ) h8 F P.length τ ss vs ⟨by subst hτ; simp (disch := omega) only [put_at, put_ne, new_at, new_ne, r1], at_top hτ, by subst hτ; simp (disch := omega) only [put_at, put_ne, new_at, new_ne, r3], by subst hτ; simp (disch := omega) only [put_at, put_ne, new_at, new_ne, r4]⟩ hk (by omega) (by omega)
  have hfr : Fr (PmS o) σ τ := hτ ▸ ((Fr.refl _ _).p ⟨by omega, by omega⟩).p ⟨by omega, by omega⟩
  rw [q1]
  unfold f_Pm_insertAt_j104
  simp (disch := first | omega | (simp only [List.length_cons, List.length_nil] <;> omega)) only [sx_ck, xk_s, sx_gI, sx_gA, xg_s, xi_s, xa_s, List.getElem?_cons_zero, List.getElem?_cons_succ, sx_lI, sx_lA, xl_s, xl_v, sx_pI, sx_pA, xp_s, List.set_cons_zero, List.set_cons_succ, sx_sI, sx_sB, sx_sZ, sx_sS, xs_s, sx_cp, xc_s, put_at, put_ne, new_at, new_ne, Option.bind_some, am_b2, sx_len, xn_s, q21, q22, q23, q24, nI_1]
  have f2 := hfr.trans q3
  refine ⟨_, _, _, _, rfl, ?_, ⟨by simp (disch := omega) only [put_at, put_ne, new_at, new_ne], by simp (disch := omega) only [put_at, put_ne, new_at, new_ne, q22]; rfl, by simp (disch := omega) only [put_at, put_ne, new_at, new_ne]; rfl, by simp (disch := omega) only [put_at, put_ne, new_at, new_ne, q24]; rfl⟩, fun v => ?_⟩
  · exact (f2.p ⟨by omega, by omega⟩).p ⟨by omega, by omega⟩
  have hpl := insP_pl hk (sli g st n, v)
  simp only [sli_len] at hpl
  refine ⟨by rw [insP_len hk]; omega, by rw [hpl]; omega, ?_, fun j hj => ?_, fun j hj => ?_⟩
  · rw [← ltr_len]
    apply sli_full.mpr
    rw [ltr_len, hpl, show pl P + n = pl (P.take k) + (n + pl (P.drop k)) by omega, sli_app, sli_app]
    have eA : sli ls 0 (pl (P.take k)) = ltr (P.take k) ∧ sli ls (pl (P.take k)) (pl (P.drop k)) = ltr (P.drop k) := by
      rw [hsp, sli_app] at hltr
      have e0 : ltr P = ltr (P.take k) ++ ltr (P.drop k) := by
        rw [← ltr_app, List.take_append_drop]
      rw [e0, Nat.zero_add] at hltr
      exact List.append_inj hltr (by rw [sli_len, ltr_len])
    rw [sli_cpy_ne (by omega), sli_cpy_ne (by omega), eA.1]
    simp only [Nat.zero_add]
    rw [sli_cpy, sli_cpy_ne (by omega), show pl P - pl (P.take k) = pl (P.drop k) by omega, sli_cpy, eA.2]
    unfold insP
    rw [ltr_app, ltr_cons]
  · rw [insP_len hk] at hj
    rw [insP_take hk, sli_len]
    by_cases c1 : j = k + 1
    · subst c1
      rw [uf_same, nI_add, if_neg (by omega)]
      rfl
    · rw [uf_ne c1, q4 j]
      by_cases c2 : j ≤ k
      · rw [if_pos c2, if_neg (by omega), w4 j (by omega)]
      · rw [if_neg c2, if_pos (by omega), w4 _ (by omega), nI_add]
  · rw [insP_get hk]
    rw [insP_len hk] at hj
    by_cases c1 : j = k
    · subst c1
      simp [uf_same]
    · rw [uf_ne c1, q5 j]
      by_cases c2 : j < k
      · rw [if_neg (by omega), dif_pos c2, w5 j (by omega)]
      · rw [if_pos (by omega), dif_neg c2, dif_neg c1, w5 _ (by omega)]
/-- the MAP with this number at q -/
def asgP (P : PL) (q : List Int32) (v : Int32) : PL := match fnd P q with
  | some i => P.set i (q, v)
  | none => insP P (plc P q) (q, v)
theorem PmW.set {ls ss vs : Nat → Int32} (h : PmW P ls ss vs) (hk : k < P.length) (v : Int32) : PmW (P.set k (P[k].1, v)) ls ss (uf vs k v) := by
  obtain ⟨w1, w2, w3, w4, w5⟩ := h
  have em : (P.set k (P[k].1, v)).map Prod.fst = P.map Prod.fst := by
    rw [List.map_set]
    apply List.ext_getElem?
    intro j
    by_cases e : j = k
    · subst e
      rw [List.getElem?_set_self (by simpa using hk)]
      simp [hk]
    · rw [List.getElem?_set_ne (Ne.symm e)]
  have e1 : pl (P.set k (P[k].1, v)) = pl P := by unfold pl; rw [em]
  have e2 : ltr (P.set k (P[k].1, v)) = ltr P := by unfold ltr; rw [em]
  refine ⟨by rw [List.length_set]; exact w1, by rw [e1]; exact w2, by rw [e1, e2]; exact w3, fun j hj => ?_, fun j hj => ?_⟩
  · rw [List.length_set] at hj
    rw [w4 j hj]
    unfold pl
    rw [List.map_take, List.map_take, em]
  · rw [List.length_set] at hj
    rw [List.getElem_set]
    by_cases e : k = j
    · subst e; rw [if_pos rfl, uf_same]
    · rw [if_neg e, uf_ne (Ne.symm e), w5 j hj]
variable {σ : am_S}
theorem Pm_insV {v : Int32} (h : Pm σ o P) (h8 : 8 ≤ o) (hk : k ≤ P.length) (hl : P.length < 400) (hp : pl P + n ≤ 8192) (hb : σ.2.2 b = some (cB N g)) (hbo : ¬ (o ≤ b ∧ b < o + 4)) (hn : st + n ≤ N) (hN : N < 2 ^ 31) (hF : 8192 < F) :
    ∃ σ', ((f_Pm_insertAt F σ o (nI k) b (nI st) (nI n)).bind fun σ5 => (am_gA σ5 4 2 o).bind fun v6 => (am_sI σ5 v6 (nI k) v).bind fun σ7 => some σ7) = some σ' ∧ Pm σ' o (insP P k (sli g st n, v)) ∧ Fr (PmS o) σ σ' := by
  obtain ⟨ls, ss, vs, hR, hw⟩ := h
  obtain ⟨σ', ls', ss', vs', q1, q2, ⟨r1, r2, r3, r4⟩, q4⟩ := Pm_ins h8 hR hw hk hl hp hb hbo hn hN hF
  rw [q1]
  simp (disch := first | omega | (simp only [List.length_cons, List.length_nil] <;> omega)) only [sx_ck, xk_s, sx_gI, sx_gA, xg_s, xi_s, xa_s, List.getElem?_cons_zero, List.getElem?_cons_succ, sx_lI, sx_lA, xl_s, xl_v, sx_pI, sx_pA, xp_s, List.set_cons_zero, List.set_cons_succ, sx_sI, sx_sB, sx_sZ, sx_sS, xs_s, sx_cp, xc_s, put_at, put_ne, new_at, new_ne, Option.bind_some, am_b2, sx_len, xn_s, r1, r4]
  exact ⟨_, rfl, ⟨ls', ss', uf vs' k v, ⟨by simp (disch := omega) only [put_at, put_ne, new_at, new_ne, r1, insP_len hk], by simp (disch := omega) only [put_at, put_ne, new_at, new_ne, r2], by simp (disch := omega) only [put_at, put_ne, new_at, new_ne, r3], by simp (disch := omega) only [put_at, put_ne, new_at, new_ne]⟩, q4 v⟩, q2.p ⟨by omega, by omega⟩⟩
theorem Pm_setV {v : Int32} (h : Pm σ o P) (h8 : 8 ≤ o) (hk : k < P.length) :
    ∃ σ', ((am_gA σ 4 2 o).bind fun v3 => (am_sI σ v3 (nI k) v).bind fun σ4 => some σ4) = some σ' ∧ Pm σ' o (P.set k (P[k].1, v)) ∧ Fr (PmS o) σ σ' := by
  obtain ⟨ls, ss, vs, ⟨r1, r2, r3, r4⟩, hw⟩ := h
  have w1 := hw.1
  simp (disch := first | omega | (simp only [List.length_cons, List.length_nil] <;> omega)) only [sx_ck, xk_s, sx_gI, sx_gA, xg_s, xi_s, xa_s, List.getElem?_cons_zero, List.getElem?_cons_succ, sx_lI, sx_lA, xl_s, xl_v, sx_pI, sx_pA, xp_s, List.set_cons_zero, List.set_cons_succ, sx_sI, sx_sB, sx_sZ, sx_sS, xs_s, sx_cp, xc_s, put_at, put_ne, new_at, new_ne, Option.bind_some, am_b2, sx_len, xn_s, r1, r4]
  exact ⟨_, rfl, ⟨ls, ss, _, ⟨by simp (disch := omega) only [put_at, put_ne, new_at, new_ne, r1, List.length_set], by simp (disch := omega) only [put_at, put_ne, new_at, new_ne, r2], by simp (disch := omega) only [put_at, put_ne, new_at, new_ne, r3], by simp (disch := omega) only [put_at, put_ne, new_at, new_ne]⟩, hw.set hk v⟩, (Fr.refl _ _).p ⟨by omega, by omega⟩⟩
theorem Pm_assign {v : Int32} (h : Pm σ o P) (hs : Srt P) (h8 : 8 ≤ o) (hfit : ((fnd P (sli g st n)).isSome || room P (sli g st n)) = true) (hb : σ.2.2 b = some (cB N g)) (hbo : ¬ (o ≤ b ∧ b < o + 4)) (hn : st + n ≤ N) (hN : N < 2 ^ 31) (hF : 8192 < F) (hq : isB (sli g st n)) :
    ∃ σ', f_Pm_assign F σ o b (nI st) (nI n) v = some σ' ∧ Pm σ' o (asgP P (sli g st n) v) ∧ Fr (PmS o) σ σ' := by
  have hpl := Pm_place h hs hb hn hN hF hq
  have hat := Pm_isAt h hs hb hn hN hF hq
  obtain ⟨ls, ss, vs, ⟨h1, -⟩, -⟩ := id h
  unfold f_Pm_assign asgP
  rw [am_ck_of h1, hpl, Option.bind_some, hat, Option.bind_some]
  cases hf : fnd P (sli g st n) with
  | none =>
    simp only [hf, Option.isSome_none, Bool.false_or] at hfit ⊢
    unfold room at hfit
    simp only [Bool.and_eq_true, decide_eq_true_eq, sli_len] at hfit
    rw [if_pos (show bo false = 0 by decide)]
    exact Pm_insV h h8 (plc_le _ _) hfit.1.1 hfit.1.2 hb hbo hn hN hF
  | some i =>
    obtain ⟨e1, e2, e3⟩ := fnd_plc hs hq hf
    simp only [Option.isSome_some]
    rw [if_neg (show ¬ bo true = 0 by decide), ← e1]
    have := Pm_setV (v := v) h h8 e2
    rw [e3] at this
    exact this
theorem Pm_addPath {o2 : Nat} {Q : PL} {v : Int32} (h : Pm σ o P) (hs : Srt P) (h8 : 8 ≤ o) (h' : Pm σ o2 Q) (hs' : Srt Q) {j : Nat} (hj : j < Q.length) (hne : o + 4 ≤ o2 ∨ o2 + 4 ≤ o) (hF : 8192 < F) :
    ∃ σ', f_Pm_addPathOf F σ o o2 (nI j) v = some (bo (!(fnd P Q[j].1).isSome && room P Q[j].1), σ') ∧ Pm σ' o (if (!(fnd P Q[j].1).isSome && room P Q[j].1) = true then asgP P Q[j].1 v else P) ∧ Fr (PmS o) σ σ' := by
  have hl := Pm_length (F := F) h' hj
  obtain ⟨ls, ss, vs, ⟨h1, h2, h3, h4⟩, hw⟩ := id h'
  have hr := hw.row hj
  have hple := pl_get_le hj
  obtain ⟨w1, w2, w3, w4, w5⟩ := hw
  obtain ⟨ls', ss', vs', ⟨g1, -⟩, -⟩ := id h
  have hq := hs'.1 _ hj
  have hpl := Pm_place (F := F) h hs h2 (st := pl (Q.take j)) (n := Q[j].1.length) (by omega) (by omega) hF (by rw [hr]; exact hq)
  have hat := Pm_isAt (F := F) h hs h2 (st := pl (Q.take j)) (n := Q[j].1.length) (by omega) (by omega) hF (by rw [hr]; exact hq)
  have hrm := Pm_room (F := F) h hs h2 (st := pl (Q.take j)) (n := Q[j].1.length) (by omega) (by omega) hF
  rw [hr] at hpl hat hrm
  unfold f_Pm_addPathOf
  rw [hl, sx_ck, g1, xk_s, sx_gA, h1, xg_s]
  simp (disch := first | omega | (simp only [List.length_cons, List.length_nil] <;> omega)) only [sx_ck, xk_s, sx_gI, sx_gA, xg_s, xi_s, xa_s, List.getElem?_cons_zero, List.getElem?_cons_succ, sx_lI, sx_lA, xl_s, xl_v, sx_pI, sx_pA, xp_s, List.set_cons_zero, List.set_cons_succ, sx_sI, sx_sB, sx_sZ, sx_sS, xs_s, sx_cp, xc_s, put_at, put_ne, new_at, new_ne, Option.bind_some, am_b2, sx_len, xn_s, h3, h1, w4, hpl, hat, hrm]
  have hat2 := hat
  cases hf : fnd P Q[j].1 with
  | some i =>
    simp only [hf, Option.isSome_some, Bool.not_true, Bool.false_and] at hat2 ⊢
    rw [if_neg (show ¬ bo true = 0 by decide)]
    exact ⟨σ, rfl, by simpa using h, Fr.refl _ _⟩
  | none =>
    simp only [hf, Option.isSome_none, Bool.not_false, Bool.true_and] at hat2 ⊢
    rw [if_pos (show bo false = 0 by decide)]
    cases hz : room P Q[j].1 with
    | false =>
      rw [if_pos (show bo false = 0 by decide)]
      exact ⟨σ, rfl, by simpa using h, Fr.refl _ _⟩
    | true =>
      rw [if_neg (show ¬ bo true = 0 by decide)]
      unfold room at hz
      simp only [Bool.and_eq_true, decide_eq_true_eq] at hz
      obtain ⟨σ', q1, q2, q3⟩ := Pm_insV (v := v) (F := F) h h8 (plc_le P Q[j].1) hz.1.1 (n := Q[j].1.length) hz.1.2 h2 (by omega) (st := pl (Q.take j)) (by omega) (by omega) hF
      refine ⟨σ', ?_, ?_, q3⟩
      · cases hy : f_Pm_insertAt F σ o (nI (plc P Q[j].1)) (o2 + 1) (nI (pl (Q.take j))) (nI Q[j].1.length) with
        | none => rw [hy] at q1; cases q1
        | some τ =>
          rw [hy] at q1
          simp only [Option.bind_some] at q1 ⊢
          cases hx : am_gA τ 4 2 o with
          | none => rw [hx] at q1; cases q1
          | some r =>
            rw [hx] at q1
            simp only [sx_gA] at hx
            simp only [Option.bind_some, hx] at q1 ⊢
            cases hu : am_sI τ r (nI (plc P Q[j].1)) v with
            | none => rw [hu] at q1; cases q1
            | some ρ =>
              rw [hu] at q1
              simp only [sx_sI] at hu
              simp only [Option.bind_some, Option.some.injEq, hu] at q1 ⊢
              rw [q1]
              rfl
      · rw [if_pos rfl]
        unfold asgP
        rw [hf]
        rw [hr] at q2
        exact q2
end PW
