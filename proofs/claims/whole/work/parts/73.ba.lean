/-! ===== L3: Blobs: adding, common length, score ===== -/
theorem bo_and (b : Bool) : bo b &&& 1 = bo b := by cases b <;> decide
theorem bo_0 (b : Bool) : (bo b = 0) ↔ b = false := by cases b <;> decide
theorem nI_mul (a b : Nat) : nI a * nI b = nI (a * b) := (Int32.ofNat_mul a b).symm
theorem nI_div {a b : Nat} (ha : a < 2 ^ 31) (hb : b < 2 ^ 31) (h0 : 0 < b) : nI a / nI b = nI (a / b) := by
  apply Int32.toInt_inj.mp
  have hq : a / b ≤ a := Nat.div_le_self _ _
  rw [lg_idiv_nonneg (by rw [nI_toInt ha]; omega) (by rw [nI_toInt hb]; omega), nI_toInt ha, nI_toInt hb, nI_toInt (by omega)]
  rfl
theorem max_nI {a b : Nat} (ha : a < 2 ^ 31) (hb : b < 2 ^ 31) : am_max (nI a) (nI b) = nI (max a b) := by
  unfold am_max
  by_cases h : a < b
  · rw [Nat.max_eq_right (by omega)]
    first
      | rw [if_pos (nI_lt h hb)]
      | rw [if_neg (nI_nlt (by omega) hb)]
      | rw [if_pos (nI_le (by omega) hb)]
      | rw [if_neg (nI_ge (by omega) hb)]
  · rw [Nat.max_eq_left (by omega)]
    first
      | rw [if_neg (nI_nlt (by omega) ha)]
      | rw [if_pos (nI_le (by omega) ha)]
      | (by_cases he : a = b
         · subst he
           split <;> rfl
         · first
            | rw [if_pos (nI_lt (by omega) ha)]
            | rw [if_neg (nI_ge (by omega) ha)])
section BA
variable {σ : am_S} {o F : Nat} {B : List (List Int32)} {b N st n : Nat} {g : Nat → Int32}
theorem Bl_addEnd {σ : am_S} {by_ sta ro fl lc wt ls ll lk lh lch : Nat → Int32} {nb nl f : Nat} (h8 : 8 ≤ o) (hB : BlR σ o by_ sta ro fl lc wt nb) (hL : LtR σ o by_ ls ll lk lh lch nl) (hn : nb < 500) (hf : fl nb = nI f) (hl : f ≤ nl) : ∃ σ', f_Bl_addText_j95 F o σ = some σ' ∧ BlR σ' o by_ sta ro fl (uf lc nb (nI (nl - f))) wt (nb + 1) ∧ LtR σ' o by_ ls ll lk lh lch nl ∧ Fr (BlS o) σ σ' := by
  obtain ⟨b1, b2, b3, b4, b5, b6, b7⟩ := hB
  obtain ⟨l1, l2, l3, l4, l5, l6, l7⟩ := hL
  unfold f_Bl_addText_j95
  simp (disch := first | omega | (simp only [List.length_cons, List.length_nil] <;> omega)) only [sx_ck, xk_s, sx_gI, sx_gA, xg_s, xi_s, xa_s, List.getElem?_cons_zero, List.getElem?_cons_succ, sx_lI, sx_lA, xl_s, xl_v, sx_pI, sx_pA, xp_s, List.set_cons_zero, List.set_cons_succ, sx_sI, sx_sB, sx_sZ, sx_sS, xs_s, sx_cp, xc_s, put_at, put_ne, new_at, new_ne, Option.bind_some, am_b2, sx_len, xn_s, b1, b5, b6, l1, hf, nI_1, nI_sub]
  exact ⟨_, rfl, ⟨by simp (disch := omega) only [put_at, put_ne, new_at, new_ne], by simp (disch := omega) only [put_at, put_ne, new_at, new_ne, b2], by simp (disch := omega) only [put_at, put_ne, new_at, new_ne, b3], by simp (disch := omega) only [put_at, put_ne, new_at, new_ne, b4], by simp (disch := omega) only [put_at, put_ne, new_at, new_ne, b5], by simp (disch := omega) only [put_at, put_ne, new_at, new_ne], by simp (disch := omega) only [put_at, put_ne, new_at, new_ne, b7]⟩, ⟨by simp (disch := omega) only [put_at, put_ne, new_at, new_ne, l1], by simp (disch := omega) only [put_at, put_ne, new_at, new_ne, l2], by simp (disch := omega) only [put_at, put_ne, new_at, new_ne, l3], by simp (disch := omega) only [put_at, put_ne, new_at, new_ne, l4], by simp (disch := omega) only [put_at, put_ne, new_at, new_ne, l5], by simp (disch := omega) only [put_at, put_ne, new_at, new_ne, l6], by simp (disch := omega) only [put_at, put_ne, new_at, new_ne, l7]⟩, ((Fr.refl _ _).p ⟨by omega, by omega⟩).p ⟨by omega, by omega⟩⟩
theorem BlW.snoc {by_ by' sta ro fl lc ls ls' : Nat → Int32} {t : List Int32} (h : BlW B by_ sta ro fl lc ls) (hB : B.length < 500) (hs : sl B + t.length ≤ 32768) (ht : t.length ≤ 4096) (hb1 : ∀ j, j < sl B → by' j = by_ j) (hb2 : sli by' (sl B) t.length = t) (hls : ∀ j, j < (tls B).length → ls' j = ls j) (hls2 : ∀ j, j < lcn t → ls' ((tls B).length + j) = nI (sl B + sl ((tln t).take j))) :
    BlW (B ++ [t]) by' (uf sta (B.length + 1) (nI (sl B + t.length))) (uf ro B.length (bo (rgh t))) (uf fl B.length (nI (tls B).length)) (uf lc B.length (nI (lcn t))) ls' := by
  obtain ⟨w1, w2, w3, w4, w5, w6⟩ := h
  have hlen : (B ++ [t]).length = B.length + 1 := by simp
  refine ⟨by omega, by rw [sl_app, sl_one]; exact hs, fun k hk => ?_, ?_, fun k hk => ?_, fun k hk => ?_⟩
  · by_cases e : k = B.length
    · subst e
      have : (B ++ [t])[B.length] = t := by simp
      rw [this]; exact ht
    · have : (B ++ [t])[k] = B[k] := List.getElem_append_left (by omega)
      rw [this]; exact w3 k (by omega)
  · rw [sl_app, sl_one, sli_app, Nat.zero_add, hb2, List.flatten_append, sli_congr (g := by_) (t := 0) fun j hj => by rw [Nat.zero_add]; exact hb1 j hj, w4]
    simp
  · rw [hlen] at hk
    by_cases e : k = B.length + 1
    · subst e
      rw [uf_same, List.take_of_length_le (by omega), sl_app, sl_one]
    · rw [uf_ne e, List.take_append_of_le_length (by omega), w5 k (by omega)]
  · rw [hlen] at hk
    by_cases e : k = B.length
    · subst e
      have : (B ++ [t])[B.length] = t := by simp
      rw [this, uf_same, uf_same, uf_same, List.take_append_of_le_length (Nat.le_refl _), List.take_length]
      exact ⟨rfl, rfl, rfl, hls2⟩
    · have : (B ++ [t])[k] = B[k] := List.getElem_append_left (by omega)
      rw [this, uf_ne e, uf_ne e, uf_ne e, List.take_append_of_le_length (by omega)]
      obtain ⟨q1, q2, q3, q4⟩ := w6 k (by omega)
      refine ⟨q1, q2, q3, fun j hj => ?_⟩
      rw [hls _ ?_, q4 j hj]
      have h1 := tls_take_succ (B := B) (k := k) (by omega)
      have h2 := tls_split B (k + 1)
      have h3 := congrArg List.length h1
      have h4 := congrArg List.length h2
      have h5 := tln_len B[k]
      rw [List.length_append] at h3 h4
      omega
theorem Bl_addText (h : Bl σ o B) (h8 : 8 ≤ o) (hB : B.length < 500) (hsB : sl B + n ≤ 32768) (hn : n ≤ 4096) (hb : σ.2.2 b = some (cB N g)) (hbo : ¬ (o ≤ b ∧ b ≤ o + 12)) (hs : st + n ≤ N) (hN : N < 2 ^ 31) (hF : 32768 < F) :
    ∃ σ', f_Bl_addText F σ o b (nI st) (nI n) = some σ' ∧ Bl σ' o (B ++ [sli g st n]) ∧ Fr (BlS o) σ σ' ∧ σ'.2.2 (o + 12) = σ.2.2 (o + 12) := by
  obtain ⟨by_, sta, ro, fl, lc, wt, ls, ll, lk, lh, lch, ⟨b1, b2, b3, b4, b5, b6, b7⟩, ⟨l1, l2, l3, l4, l5, l6, l7⟩, hw, hv⟩ := h
  obtain ⟨w1, w2, w3, w4, w5, w6⟩ := id hw
  have e0 : sta B.length = nI (sl B) := by rw [w5 _ (Nat.le_refl _), List.take_length]
  unfold f_Bl_addText
  simp (disch := first | omega | (simp only [List.length_cons, List.length_nil] <;> omega)) only [sx_ck, xk_s, sx_gI, sx_gA, xg_s, xi_s, xa_s, List.getElem?_cons_zero, List.getElem?_cons_succ, sx_lI, sx_lA, xl_s, xl_v, sx_pI, sx_pA, xp_s, List.set_cons_zero, List.set_cons_succ, sx_sI, sx_sB, sx_sZ, sx_sS, xs_s, sx_cp, xc_s, put_at, put_ne, new_at, new_ne, Option.bind_some, am_b2, sx_len, xn_s, b1, b2, b3, b4, hb, e0, nI_1, nI_add]
  generalize hτ : am_put _ _ _ = τ
  have t2 : τ.2.2 (o + 1) = some (cB 32768 (va_cpy g by_ st (sl B) n)) := by subst hτ; simp (disch := omega) only [put_at, put_ne, new_at, new_ne]
  have hBτ : BlR τ o (va_cpy g by_ st (sl B) n) (uf sta (B.length + 1) (nI (sl B + n))) ro fl lc wt B.length := ⟨by subst hτ; simp (disch := omega) only [put_at, put_ne, new_at, new_ne, b1], t2, by subst hτ; simp (disch := omega) only [put_at, put_ne, new_at, new_ne], by subst hτ; simp (disch := omega) only [put_at, put_ne, new_at, new_ne, b4], by subst hτ; simp (disch := omega) only [put_at, put_ne, new_at, new_ne, b5], by subst hτ; simp (disch := omega) only [put_at, put_ne, new_at, new_ne, b6], by subst hτ; simp (disch := omega) only [put_at, put_ne, new_at, new_ne, b7]⟩
  have hLτ : LtR τ o (va_cpy g by_ st (sl B) n) ls ll lk lh lch (tls B).length := ⟨by subst hτ; simp (disch := omega) only [put_at, put_ne, new_at, new_ne, l1], t2, by subst hτ; simp (disch := omega) only [put_at, put_ne, new_at, new_ne, l3], by subst hτ; simp (disch := omega) only [put_at, put_ne, new_at, new_ne, l4], by subst hτ; simp (disch := omega) only [put_at, put_ne, new_at, new_ne, l5], by subst hτ; simp (disch := omega) only [put_at, put_ne, new_at, new_ne, l6], by subst hτ; simp (disch := omega) only [put_at, put_ne, new_at, new_ne, l7]⟩
  have hfr : Fr (BlS o) σ τ := hτ ▸ ((Fr.refl _ _).p ⟨by omega, by omega⟩).p ⟨by omega, by omega⟩
  have hrg := Bl_rough (F := F) hBτ (s := sl B) (e := sl B + n) (by omega) (by omega) hF
  rw [Nat.add_sub_cancel_left, sli_cpy] at hrg
  have hby : ∀ j, j < sl B → va_cpy g by_ st (sl B) n j = by_ j := fun j hj => by unfold va_cpy; rw [if_neg (by omega)]
  have hvτ := LtW.mono (by' := va_cpy g by_ st (sl B) n) hv (Nat.le_refl _) hby
  clear hτ hv
  obtain ⟨c1, c2, c3, c4, c5, c6, c7⟩ := id hBτ
  obtain ⟨d1, d2, d3, d4, d5, d6, d7⟩ := id hLτ
  simp (disch := first | omega | (simp only [List.length_cons, List.length_nil] <;> omega)) only [sx_ck, xk_s, sx_gI, sx_gA, xg_s, xi_s, xa_s, List.getElem?_cons_zero, List.getElem?_cons_succ, sx_lI, sx_lA, xl_s, xl_v, sx_pI, sx_pA, xp_s, List.set_cons_zero, List.set_cons_succ, sx_sI, sx_sB, sx_sZ, sx_sS, xs_s, sx_cp, xc_s, put_at, put_ne, new_at, new_ne, Option.bind_some, am_b2, sx_len, xn_s, c1, c4, c5, c6, d1, hrg, bo_and, uf_same, bo_0, b1, b5, l1]
  generalize hρ : am_put _ _ _ = ρ
  have hBρ : BlR ρ o (va_cpy g by_ st (sl B) n) (uf sta (B.length + 1) (nI (sl B + n))) (uf ro B.length (bo (rgh (sli g st n)))) (uf fl B.length (nI (tls B).length)) lc wt B.length := ⟨by subst hρ; simp (disch := omega) only [put_at, put_ne, new_at, new_ne, c1], by subst hρ; simp (disch := omega) only [put_at, put_ne, new_at, new_ne, c2], by subst hρ; simp (disch := omega) only [put_at, put_ne, new_at, new_ne, c3], by subst hρ; simp (disch := omega) only [put_at, put_ne, new_at, new_ne], by subst hρ; simp (disch := omega) only [put_at, put_ne, new_at, new_ne], by subst hρ; simp (disch := omega) only [put_at, put_ne, new_at, new_ne, c6], by subst hρ; simp (disch := omega) only [put_at, put_ne, new_at, new_ne, c7]⟩
  have hLρ : LtR ρ o (va_cpy g by_ st (sl B) n) ls ll lk lh lch (tls B).length := ⟨by subst hρ; simp (disch := omega) only [put_at, put_ne, new_at, new_ne, d1], by subst hρ; simp (disch := omega) only [put_at, put_ne, new_at, new_ne, d2], by subst hρ; simp (disch := omega) only [put_at, put_ne, new_at, new_ne, d3], by subst hρ; simp (disch := omega) only [put_at, put_ne, new_at, new_ne, d4], by subst hρ; simp (disch := omega) only [put_at, put_ne, new_at, new_ne, d5], by subst hρ; simp (disch := omega) only [put_at, put_ne, new_at, new_ne, d6], by subst hρ; simp (disch := omega) only [put_at, put_ne, new_at, new_ne, d7]⟩
  have hfr3 : Fr (BlS o) τ ρ := hρ ▸ ((Fr.refl _ _).p ⟨by omega, by omega⟩).p ⟨by omega, by omega⟩
  have hfr2 := hfr.trans hfr3
  clear hρ
  have htl : tls (B ++ [sli g st n]) = tls B ++ tln (sli g st n) := by rw [tls_app, tls_one]
  have hbl : (B ++ [sli g st n]).length = B.length + 1 := by simp
  have hsl : sl (B ++ [sli g st n]) = sl B + n := by rw [sl_app, sl_one, sli_len]
  cases hr : rgh (sli g st n) with
  | true =>
    simp only [hr, Bool.true_eq_false, if_false] at hBρ ⊢
    obtain ⟨σ', q1, q2, q3, q4⟩ := Bl_addEnd (F := F) h8 hBρ hLρ hB (uf_same _ _ _) (Nat.le_refl _)
    have hl0 : tln (sli g st n) = [] := by unfold tln; rw [if_pos hr]
    have hc0 : lcn (sli g st n) = 0 := by unfold lcn; rw [if_pos hr]
    have hW := BlW.snoc (by' := va_cpy g by_ st (sl B) n) (ls' := ls) (t := sli g st n) hw hB (by rw [sli_len]; omega) (by rw [sli_len]; omega) hby (by rw [sli_len, sli_cpy]) (fun j _ => rfl) (fun j hj => by rw [hc0] at hj; omega)
    rw [sli_len, hr, hc0] at hW
    refine ⟨σ', q1, ⟨_, _, _, _, _, _, _, _, _, _, _, by rw [hbl]; exact q2, by rw [htl, hl0, List.append_nil]; exact q3, ?_, ?_⟩, hfr2.trans q4, by rw [q2.2.2.2.2.2.2]; exact b7.symm⟩
    · rw [Nat.sub_self]; exact hW
    · rw [htl, hl0, List.append_nil, hsl]
      exact hvτ.mono (by omega) fun _ _ => rfl
  | false =>
    simp only [hr, if_true] at hBρ ⊢
    obtain ⟨σ', ls', ll', lk', lh', lc', p1, p2, p3, p4, p5, p6, p7⟩ := Lt_cutLoop (F := F) (e := sl B + n) h8 (by omega) hF F (sl B) (sl B) ρ ls ll lk lh lch (tls B) hBρ hLρ hvτ (Nat.le_refl _) (by omega) (fun z => z) (by omega)
    rw [Nat.sub_self, sli_zero, Nat.add_sub_cancel_left, sli_cpy] at p3 p4 p7
    have hl0 : tln (sli g st n) = lnA [] (sli g st n) := by unfold tln; rw [hr]; rfl
    rw [← hl0] at p3 p4 p7
    unfold f_Bl_cutLines
    rw [am_ck_of hBρ.1, p1, Option.bind_some]
    obtain ⟨σ2, q1, q2, q3, q4⟩ := Bl_addEnd (F := F) h8 p2 p3 hB (uf_same _ _ _) (by rw [List.length_append]; omega)
    have hW := BlW.snoc (by' := va_cpy g by_ st (sl B) n) (ls' := ls') (t := sli g st n) hw hB (by rw [sli_len]; omega) (by rw [sli_len]; omega) hby (by rw [sli_len, sli_cpy]) p6 (fun j hj => p7 j (by rw [tln_len]; exact hj))
    rw [sli_len, hr, ← tln_len] at hW
    refine ⟨σ2, q1, ⟨_, _, _, _, _, _, _, _, _, _, _, by rw [hbl]; exact q2, by rw [htl]; exact q3, ?_, ?_⟩, (hfr2.trans (p5.mono fun a ha => ⟨by omega, by omega⟩)).trans q4, by rw [q2.2.2.2.2.2.2]; exact b7.symm⟩
    · rw [List.length_append, Nat.add_sub_cancel_left]; exact hW
    · rw [htl, hsl]; exact p4
/-- waiting is 0 everywhere -/
def Wz (σ : am_S) (o : Nat) : Prop := ∃ wt : Nat → Int32, σ.2.2 (o + 12) = some (cI 32768 wt) ∧ ∀ j, j < 32768 → wt j = 0
theorem bfnd_lt {t : List Int32} {k : Nat} (h : bfnd B t = some k) : ∃ hk : k < B.length, B[k] = t := by
  unfold bfnd at h
  rw [List.findIdx?_eq_some_iff_getElem] at h
  obtain ⟨h1, h2, -⟩ := h
  exact ⟨h1, of_decide_eq_true h2⟩
/-- a TEXT could be a new BLOB -/
def bRoom (B : List (List Int32)) (t : List Int32) : Bool := decide (B.length < 500) && decide (t.length ≤ 4096) && decide (sl B + t.length ≤ 32768)
def bAdd (B : List (List Int32)) (t : List Int32) : List (List Int32) := if (bfnd B t).isSome then B else B ++ [t]
theorem Bl_findOrAdd (h : Bl σ o B) (h8 : 8 ≤ o) (hb : σ.2.2 b = some (cB N g)) (hbo : ¬ (o ≤ b ∧ b ≤ o + 12)) (hs : st + n ≤ N) (hN : N < 2 ^ 30) (hF : 32768 < F) :
    ∃ σ', f_Bl_findOrAdd F σ o b (nI st) (nI n) = some (if ((bfnd B (sli g st n)).isSome || bRoom B (sli g st n)) = true then nI ((bfnd B (sli g st n)).getD B.length) else -1, σ') ∧ Bl σ' o (if ((bfnd B (sli g st n)).isSome || bRoom B (sli g st n)) = true then bAdd B (sli g st n) else B) ∧ Fr (BlS o) σ σ' ∧ σ'.2.2 (o + 12) = σ.2.2 (o + 12) := by
  have hfd := Bl_find (F := F) h hb hs (by omega) hF
  have htt := Bl_total (F := F) h
  obtain ⟨by_, sta, ro, fl, lc, wt, ls, ll, lk, lh, lch, ⟨b1, -⟩, -, ⟨w1, w2, -⟩, -⟩ := id h
  unfold f_Bl_findOrAdd
  rw [am_ck_of b1, hfd, Option.bind_some]
  simp only [oI_neg (i := bfnd B (sli g st n)) fun k hk => by have := (bfnd_lt hk).1; omega]
  unfold bAdd
  cases hf : bfnd B (sli g st n) with
  | some k =>
    simp only [Option.isSome_some, Bool.true_eq_false, if_false, Bool.true_or, if_true]
    exact ⟨σ, rfl, h, Fr.refl _ _, rfl⟩
  | none =>
    simp only [Option.isSome_none, if_true, Bool.false_or, Bool.false_eq_true, if_false]
    rw [htt]
    simp (disch := first | omega | (simp only [List.length_cons, List.length_nil] <;> omega)) only [sx_ck, xk_s, sx_gI, sx_gA, xg_s, xi_s, xa_s, List.getElem?_cons_zero, List.getElem?_cons_succ, sx_lI, sx_lA, xl_s, xl_v, sx_pI, sx_pA, xp_s, List.set_cons_zero, List.set_cons_succ, sx_sI, sx_sB, sx_sZ, sx_sS, xs_s, sx_cp, xc_s, put_at, put_ne, new_at, new_ne, Option.bind_some, am_b2, sx_len, xn_s, b1, nI_add]
    have e1 : ((500 : Int32) ≤ nI B.length) ↔ 500 ≤ B.length := nI_leI (a := 500) (by omega) (by omega)
    have e2 : ((4096 : Int32) < nI n) ↔ 4096 < n := nI_ltI (a := 4096) (by omega) (by omega)
    have e3 : (nI (sl B + n) ≤ (32768 : Int32)) ↔ sl B + n ≤ 32768 := nI_leI (b := 32768) (by omega) (by omega)
    simp only [e1, e2, e3]
    unfold bRoom
    rw [sli_len]
    by_cases c1 : 500 ≤ B.length
    · rw [if_pos c1, decide_eq_false (by omega)]
      exact ⟨σ, rfl, h, Fr.refl _ _, rfl⟩
    · rw [if_neg c1, decide_eq_true (show B.length < 500 by omega)]
      by_cases c2 : 4096 < n
      · rw [if_pos c2, decide_eq_false (by omega)]
        exact ⟨σ, rfl, h, Fr.refl _ _, rfl⟩
      · rw [if_neg c2, decide_eq_true (show n ≤ 4096 by omega)]
        by_cases c3 : sl B + n ≤ 32768
        · rw [if_pos c3, decide_eq_true c3]
          obtain ⟨σ', q1, q2, q3, q4⟩ := Bl_addText (F := F) h h8 (by omega) c3 (by omega) hb hbo hs (by omega) hF
          rw [q1]
          obtain ⟨by2, sta2, ro2, fl2, lc2, wt2, ls2, ll2, lk2, lh2, lch2, ⟨b21, -⟩, -⟩ := id q2
          have hbl : (B ++ [sli g st n]).length = B.length + 1 := by simp
          rw [hbl] at b21
          simp (disch := first | omega | (simp only [List.length_cons, List.length_nil] <;> omega)) only [sx_ck, xk_s, sx_gI, sx_gA, xg_s, xi_s, xa_s, List.getElem?_cons_zero, List.getElem?_cons_succ, sx_lI, sx_lA, xl_s, xl_v, sx_pI, sx_pA, xp_s, List.set_cons_zero, List.set_cons_succ, sx_sI, sx_sB, sx_sZ, sx_sS, xs_s, sx_cp, xc_s, put_at, put_ne, new_at, new_ne, Option.bind_some, am_b2, sx_len, xn_s, b21, nI_pred]
          exact ⟨σ', rfl, q2, q3, q4⟩
        · rw [if_neg c3, decide_eq_false c3]
          exact ⟨σ, rfl, h, Fr.refl _ _, rfl⟩
end BA
