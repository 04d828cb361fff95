/-! ===== L3: LineTable's adding; LINES; Blobs ===== -/
/-- the LINES of a TEXT of which acc is cut already -/
def lnA : List Int32 → List Int32 → List (List Int32)
  | acc, [] => if acc = [] then [] else [acc]
  | acc, x :: xs => if x = 10 then (acc ++ [x]) :: lnA [] xs else lnA (acc ++ [x]) xs
def lns (t : List Int32) : List (List Int32) := lnA [] t
def rgh (t : List Int32) : Bool := decide (0 ∈ t) || decide (200 < (lns t).length)
def cntL : List Int32 → Nat
  | [] => 0
  | x :: xs => (if x = 10 ∨ xs = [] then 1 else 0) + cntL xs
theorem lnA_len : ∀ (r acc : List Int32), r ≠ [] ∨ acc = [] → (lnA acc r).length = cntL r
  | [], acc, h => by
    have : acc = [] := by simpa using h
    simp [lnA, this, cntL]
  | x :: xs, acc, _ => by
    unfold lnA cntL
    by_cases hx : x = 10
    · rw [if_pos hx, if_pos (Or.inl hx), List.length_cons, lnA_len xs [] (Or.inr rfl)]
      omega
    · rw [if_neg hx]
      by_cases he : xs = []
      · subst he
        simp [lnA, cntL]
      · rw [lnA_len xs _ (Or.inl he), if_neg (by simp [hx, he])]
        omega
theorem cntL_le : ∀ r : List Int32, cntL r ≤ r.length
  | [] => by simp [cntL]
  | x :: xs => by
    have := cntL_le xs
    unfold cntL
    split <;> simp <;> omega
theorem lnA_flat : ∀ (r acc : List Int32), (lnA acc r).flatten = acc ++ r
  | [], acc => by
    unfold lnA
    split
    · rename_i h; simp [h]
    · simp
  | x :: xs, acc => by
    unfold lnA
    split
    · rw [List.flatten_cons, lnA_flat xs []]; simp
    · rw [lnA_flat xs]; simp
theorem lns_flat (t : List Int32) : (lns t).flatten = t := by
  unfold lns; rw [lnA_flat]; simp
def lcn (t : List Int32) : Nat := if rgh t = true then 0 else (lns t).length
def tln (t : List Int32) : List (List Int32) := if rgh t = true then [] else lns t
theorem tln_len (t : List Int32) : (tln t).length = lcn t := by unfold tln lcn; split <;> rfl
theorem lcn_le (t : List Int32) : lcn t ≤ 200 := by
  unfold lcn rgh
  by_cases h : 200 < (lns t).length
  · simp [h]
  · split <;> omega
def tls (B : List (List Int32)) : List (List Int32) := B.flatMap tln
theorem tls_app (A B : List (List Int32)) : tls (A ++ B) = tls A ++ tls B := by simp [tls]
theorem tls_one (t : List Int32) : tls [t] = tln t := by simp [tls]
theorem LtW.mono {by_ by' ls ll lk lh lc : Nat → Int32} {T : List (List Int32)} {M M' : Nat} (h : LtW by_ ls ll lk lh lc T M) (hm : M ≤ M') (hb : ∀ j, j < M → by' j = by_ j) : LtW by' ls ll lk lh lc T M' := by
  obtain ⟨w0, w1, w2, w3⟩ := h
  refine ⟨by omega, fun i hi => ?_, w2, w3⟩
  obtain ⟨s, q1, q2, q3, q4⟩ := w1 i hi
  exact ⟨s, q1, by omega, q3, (sli_congr fun j hj => hb _ (by omega)).trans q4⟩
abbrev LtS (o : Nat) : Nat → Prop := fun a => o + 6 ≤ a ∧ a ≤ o + 11
section BL1
variable {o F : Nat} {by_ ls ll lk lh lc : Nat → Int32} {T : List (List Int32)} {s n M : Nat}
theorem Lt_addEnd {σ : am_S} (h8 : 8 ≤ o) (h : LtR σ o by_ ls ll lk lh lc T.length) (hT : T.length < 32768) {v : Int32} : ∃ σ', f_Lt_addLine_j54 F (o + 6) (nI s) (nI n) v σ = some σ' ∧ LtR σ' o by_ (uf ls T.length (nI s)) (uf ll T.length (nI n)) (uf lk T.length v) lh lc (T.length + 1) ∧ Fr (LtS o) σ σ' := by
  obtain ⟨h1, h2, h3, h4, h5, h6, h7⟩ := h
  unfold f_Lt_addLine_j54
  simp (disch := first | omega | (simp only [List.length_cons, List.length_nil] <;> omega)) only [sx_ck, xk_s, sx_gI, sx_gA, xg_s, xi_s, xa_s, List.getElem?_cons_zero, List.getElem?_cons_succ, sx_lI, sx_lA, xl_s, xl_v, sx_pI, sx_pA, xp_s, List.set_cons_zero, List.set_cons_succ, sx_sI, sx_sB, sx_sZ, sx_sS, xs_s, sx_cp, xc_s, put_at, put_ne, new_at, new_ne, Option.bind_some, am_b2, sx_len, xn_s, h1, h2, h3, h4, h5, h6, h7, nI_1]
  refine ⟨_, rfl, ⟨by simp (disch := omega) only [put_at, put_ne, new_at, new_ne], by simp (disch := omega) only [put_at, put_ne, new_at, new_ne, h2], by simp (disch := omega) only [put_at, put_ne, new_at, new_ne], by simp (disch := omega) only [put_at, put_ne, new_at, new_ne], by simp (disch := omega) only [put_at, put_ne, new_at, new_ne], by simp (disch := omega) only [put_at, put_ne, new_at, new_ne, h6], by simp (disch := omega) only [put_at, put_ne, new_at, new_ne, h7]⟩, ?_⟩
  exact ((((Fr.refl _ _).p ⟨by omega, by omega⟩).p ⟨by omega, by omega⟩).p ⟨by omega, by omega⟩).p ⟨by omega, by omega⟩
theorem LtW.snoc {v : Int32} {lh' lc' : Nat → Int32} (hw : LtW by_ ls ll lk lh lc T M) {M' : Nat} (hm : M ≤ M') (hT : T.length < M') (hs : s + n ≤ M') (hv : v = nI (ix T (sli by_ s n))) (hc : ∀ b, b < 4096 → Chn lc' (lh' b) (KL (T ++ [sli by_ s n]) b)) : LtW by_ (uf ls T.length (nI s)) (uf ll T.length (nI n)) (uf lk T.length v) lh' lc' (T ++ [sli by_ s n]) M' := by
  obtain ⟨w0, w1, w2, w3⟩ := hw
  refine ⟨by simp; omega, fun i hi => ?_, fun i hi => ?_, hc⟩
  · rw [List.length_append, List.length_singleton] at hi
    by_cases e : i = T.length
    · subst e
      have eg : (T ++ [sli by_ s n])[T.length] = sli by_ s n := by simp
      rw [eg, sli_len]
      exact ⟨s, uf_same _ _ _, hs, uf_same _ _ _, rfl⟩
    · obtain ⟨s', q1, q2, q3, q4⟩ := w1 i (by omega)
      have eg : (T ++ [sli by_ s n])[i] = T[i] := List.getElem_append_left (by omega)
      rw [eg]
      exact ⟨s', by rw [uf_ne e]; exact q1, by omega, by rw [uf_ne e]; exact q3, q4⟩
  · rw [List.length_append, List.length_singleton] at hi
    by_cases e : i = T.length
    · subst e
      have eg : (T ++ [sli by_ s n])[T.length] = sli by_ s n := by simp
      rw [eg, uf_same, ix_new, hv]
    · have eg : (T ++ [sli by_ s n])[i] = T[i] := List.getElem_append_left (by omega)
      rw [eg, uf_ne e, w2 i (by omega), ix_app _ (List.getElem_mem _)]
theorem Lt_add {σ : am_S} (h8 : 8 ≤ o) (h : LtR σ o by_ ls ll lk lh lc T.length) (hw : LtW by_ ls ll lk lh lc T M) {M' : Nat} (hm : M ≤ M') (hT : T.length < M') (hs : s + n ≤ M') (hM : M' ≤ 32768) (hF : 32768 < F) :
    ∃ σ' ls' ll' lk' lh' lc', f_Lt_addLine F σ (o + 6) (nI s) (nI n) = some σ' ∧ LtR σ' o by_ ls' ll' lk' lh' lc' (T.length + 1) ∧ LtW by_ ls' ll' lk' lh' lc' (T ++ [sli by_ s n]) M' ∧ Fr (LtS o) σ σ' ∧ (∀ j, j < T.length → ls' j = ls j) ∧ ls' T.length = nI s := by
  have hbk := Lt_bucket (F := F) h (s := s) (n := n) (by omega) (by omega)
  have hfk := Lt_findKind (F := F) h hw (s := s) (n := n) (by omega) (by omega) hF
  have hhb := (hX_eq (sli by_ s n)).2
  obtain ⟨h1, h2, h3, h4, h5, h6, h7⟩ := id h
  unfold f_Lt_addLine
  rw [am_ck_of h1, hbk, Option.bind_some, hfk, Option.bind_some]
  have hix := ix_le T (sli by_ s n)
  by_cases hq : sli by_ s n ∈ T
  · rw [if_pos hq]
    have hp : (0 : Int32) ≤ oI (some (ix T (sli by_ s n))) := nI_pos' (by omega)
    rw [if_pos hp]
    obtain ⟨σ', q1, q2, q3⟩ := Lt_addEnd (F := F) (s := s) (n := n) (v := oI (some (ix T (sli by_ s n)))) h8 h (by omega)
    refine ⟨σ', _, _, _, _, _, q1, q2, hw.snoc hm hT hs rfl fun b hb => ?_, q3, fun j hj => uf_ne (by omega), uf_same _ _ _⟩
    rw [KL_snoc, if_neg (fun z => z.1 hq)]
    exact hw.2.2.2 b hb
  · rw [if_neg hq]
    have hp : ¬ (0 : Int32) ≤ oI none := by decide
    rw [if_neg hp]
    have hi : ix T (sli by_ s n) = T.length := by
      have : ¬ ix T (sli by_ s n) < T.length := fun z => hq (ix_mem.mp z)
      omega
    simp (disch := first | omega | (simp only [List.length_cons, List.length_nil] <;> omega)) only [sx_ck, xk_s, sx_gI, sx_gA, xg_s, xi_s, xa_s, List.getElem?_cons_zero, List.getElem?_cons_succ, sx_lI, sx_lA, xl_s, xl_v, sx_pI, sx_pA, xp_s, List.set_cons_zero, List.set_cons_succ, sx_sI, sx_sB, sx_sZ, sx_sS, xs_s, sx_cp, xc_s, put_at, put_ne, new_at, new_ne, Option.bind_some, am_b2, sx_len, xn_s, h1, h2, h3, h4, h5, h6, h7, nI_1]
    generalize hτ : am_put _ _ _ = τ
    have hR : LtR τ o by_ ls ll lk (uf lh (hsh (sli by_ s n)) (nI (T.length + 1))) (uf lc T.length (lh (hsh (sli by_ s n)))) T.length := ⟨by subst hτ; simp (disch := omega) only [put_at, put_ne, new_at, new_ne, h1], by subst hτ; simp (disch := omega) only [put_at, put_ne, new_at, new_ne, h2], by subst hτ; simp (disch := omega) only [put_at, put_ne, new_at, new_ne, h3], by subst hτ; simp (disch := omega) only [put_at, put_ne, new_at, new_ne, h4], by subst hτ; simp (disch := omega) only [put_at, put_ne, new_at, new_ne, h5], by subst hτ; simp (disch := omega) only [put_at, put_ne, new_at, new_ne], by subst hτ; simp (disch := omega) only [put_at, put_ne, new_at, new_ne]⟩
    have hfr : Fr (LtS o) σ τ := hτ ▸ ((Fr.refl _ _).p ⟨by omega, by omega⟩).p ⟨by omega, by omega⟩
    obtain ⟨σ', q1, q2, q3⟩ := Lt_addEnd (F := F) (s := s) (n := n) (v := nI T.length) h8 hR (by omega)
    refine ⟨σ', _, _, _, _, _, q1, q2, hw.snoc hm hT hs (by rw [hi]) fun b hb => ?_, hfr.trans q3, fun j hj => uf_ne (by omega), uf_same _ _ _⟩
    have hch : Chn (uf lc T.length (lh (hsh (sli by_ s n)))) (lh b) (KL T b) := Chn.congr (fun j hj => uf_ne (by have := (KL_mem.mp hj).1; omega)) (hw.2.2.2 b hb)
    rw [KL_snoc]
    by_cases e : hsh (sli by_ s n) = b
    · subst e
      rw [if_pos ⟨hq, rfl⟩, uf_same]
      exact ⟨rfl, by rw [uf_same]; exact hch⟩
    · rw [if_neg (fun z => e z.2), uf_ne (fun z => e z.symm)]
      exact hch
/-- the Blobs' own cells -/
def BlR (σ : am_S) (o : Nat) (by_ st ro fl lc wt : Nat → Int32) (n : Nat) : Prop :=
  σ.2.2 o = some (cO 2 [.ref (o + 1), .ref (o + 2), .ref (o + 3), .ref (o + 4), .ref (o + 5), .ref (o + 6), .ref (o + 12), .int (nI n)]) ∧ σ.2.2 (o + 1) = some (cB 32768 by_) ∧ σ.2.2 (o + 2) = some (cI 501 st) ∧ σ.2.2 (o + 3) = some (cZ 500 ro) ∧ σ.2.2 (o + 4) = some (cI 500 fl) ∧ σ.2.2 (o + 5) = some (cI 500 lc) ∧ σ.2.2 (o + 12) = some (cI 32768 wt)
theorem Lt_cutLoop {st ro fl lcs wt : Nat → Int32} {nb e : Nat} (h8 : 8 ≤ o) (he : e ≤ 32768) (hF : 32768 < F) : ∀ (m l at_ : Nat) (σ : am_S) (ls ll lk lh lc : Nat → Int32) (T : List (List Int32)), BlR σ o by_ st ro fl lcs wt nb → LtR σ o by_ ls ll lk lh lc T.length → LtW by_ ls ll lk lh lc T l → l ≤ at_ → at_ ≤ e → (at_ = e → l = e) → e - at_ < m →
    ∃ σ' ls' ll' lk' lh' lc', f_Bl_cutLines_l5 F o (nI e) m (nI l) (nI at_) σ = some σ' ∧ BlR σ' o by_ st ro fl lcs wt nb ∧ LtR σ' o by_ ls' ll' lk' lh' lc' (T ++ lnA (sli by_ l (at_ - l)) (sli by_ at_ (e - at_))).length ∧ LtW by_ ls' ll' lk' lh' lc' (T ++ lnA (sli by_ l (at_ - l)) (sli by_ at_ (e - at_))) e ∧ Fr (LtS o) σ σ' ∧ (∀ j, j < T.length → ls' j = ls j) ∧ ∀ j, j < (lnA (sli by_ l (at_ - l)) (sli by_ at_ (e - at_))).length → ls' (T.length + j) = nI (l + sl ((lnA (sli by_ l (at_ - l)) (sli by_ at_ (e - at_))).take j)) := by
  intro m
  induction m with
  | zero => intro l at_ _ _ _ _ _ _ _ _ _ _ _ _ _ h; omega
  | succ m ih =>
    intro l at_ σ ls ll lk lh lc T hB hL hw h1 h2 h3 h4
    rw [f_Bl_cutLines_l5]
    by_cases hc : e ≤ at_
    · have : at_ = e := by omega
      subst this
      have : l = at_ := h3 rfl
      subst this
      rw [if_pos (nI_le hc (by omega))]
      have e1 : lnA (sli by_ l (l - l)) (sli by_ l (l - l)) = [] := by rw [Nat.sub_self, sli_zero]; rfl
      rw [e1, List.append_nil]
      exact ⟨σ, _, _, _, _, _, rfl, hB, hL, hw, Fr.refl _ _, fun j _ => rfl, fun j hj => absurd hj (by simp)⟩
    · rw [if_neg (nI_ge (by omega) (by omega))]
      obtain ⟨b1, b2, b3, b4, b5, b6, b7⟩ := id hB
      obtain ⟨d, hd⟩ : ∃ d, e - at_ = d + 1 := ⟨e - at_ - 1, by omega⟩
      have hd2 : e - (at_ + 1) = d := by omega
      have hacc : sli by_ l (at_ - l) ++ [by_ at_] = sli by_ l (at_ + 1 - l) := by
        rw [show at_ + 1 - l = at_ - l + 1 by omega, sli_succ, show l + (at_ - l) = at_ by omega]
      simp (disch := first | omega | (simp only [List.length_cons, List.length_nil] <;> omega)) only [sx_ck, xk_s, sx_gI, sx_gA, xg_s, xi_s, xa_s, List.getElem?_cons_zero, List.getElem?_cons_succ, sx_lI, sx_lA, xl_s, xl_v, sx_pI, sx_pA, xp_s, List.set_cons_zero, List.set_cons_succ, sx_sI, sx_sB, sx_sZ, sx_sS, xs_s, sx_cp, xc_s, put_at, put_ne, new_at, new_ne, Option.bind_some, am_b2, sx_len, xn_s, b1, b2]
      have step : (by_ at_ = 10 ∨ at_ + 1 = e) → ∃ σ' ls' ll' lk' lh' lc', f_Bl_cutLines_j31 F o (nI l) (nI at_) (fun y3 y4 τ => f_Bl_cutLines_l5 F o (nI e) m y3 y4 τ) σ = some σ' ∧ BlR σ' o by_ st ro fl lcs wt nb ∧ LtR σ' o by_ ls' ll' lk' lh' lc' (T ++ lnA (sli by_ l (at_ - l)) (sli by_ at_ (e - at_))).length ∧ LtW by_ ls' ll' lk' lh' lc' (T ++ lnA (sli by_ l (at_ - l)) (sli by_ at_ (e - at_))) e ∧ Fr (LtS o) σ σ' ∧ (∀ j, j < T.length → ls' j = ls j) ∧ ∀ j, j < (lnA (sli by_ l (at_ - l)) (sli by_ at_ (e - at_))).length → ls' (T.length + j) = nI (l + sl ((lnA (sli by_ l (at_ - l)) (sli by_ at_ (e - at_))).take j)) := by
        intro hcut
        have hln : lnA (sli by_ l (at_ - l)) (sli by_ at_ (e - at_)) = sli by_ l (at_ + 1 - l) :: lnA (sli by_ (at_ + 1) (at_ + 1 - (at_ + 1))) (sli by_ (at_ + 1) (e - (at_ + 1))) := by
          rw [hd, sli_cons, lnA, hacc, hd2, Nat.sub_self, sli_zero]
          by_cases h10 : by_ at_ = 10
          · rw [if_pos h10]
          · rw [if_neg h10]
            have : d = 0 := by have := hcut.resolve_left h10; omega
            subst this
            rw [sli_zero, lnA, if_neg]
            · rfl
            · intro z
              have := congrArg List.length z
              rw [sli_len] at this
              simp at this
              omega
        obtain ⟨σ1, ls1, ll1, lk1, lh1, lc1, q1, q2, q3, q4, q5, q6⟩ := Lt_add (F := F) (s := l) (n := at_ + 1 - l) (M' := at_ + 1) h8 hL hw (by omega) (by have := hw.1; omega) (by omega) (by omega) hF
        unfold f_Bl_cutLines_j31
        have e1 : nI (at_ + 1) - nI l = nI (at_ + 1 - l) := nI_sub (by omega)
        simp (disch := first | omega | (simp only [List.length_cons, List.length_nil] <;> omega)) only [sx_ck, xk_s, sx_gI, sx_gA, xg_s, xi_s, xa_s, List.getElem?_cons_zero, List.getElem?_cons_succ, sx_lI, sx_lA, xl_s, xl_v, sx_pI, sx_pA, xp_s, List.set_cons_zero, List.set_cons_succ, sx_sI, sx_sB, sx_sZ, sx_sS, xs_s, sx_cp, xc_s, put_at, put_ne, new_at, new_ne, Option.bind_some, am_b2, sx_len, xn_s, b1, nI_1, e1, q1]
        have hB1 : BlR σ1 o by_ st ro fl lcs wt nb := ⟨q4.at (by omega) b1, q4.at (by omega) b2, q4.at (by omega) b3, q4.at (by omega) b4, q4.at (by omega) b5, q4.at (by omega) b6, q4.at (by omega) b7⟩
        have hl1 : (T ++ [sli by_ l (at_ + 1 - l)]).length = T.length + 1 := by simp
        obtain ⟨σ', ls', ll', lk', lh', lc', p1, p2, p3, p4, p5, p6, p7⟩ := ih (at_ + 1) (at_ + 1) σ1 ls1 ll1 lk1 lh1 lc1 (T ++ [sli by_ l (at_ + 1 - l)]) hB1 (by rw [hl1]; exact q2) q3 (Nat.le_refl _) (by omega) (fun z => z) (by omega)
        rw [List.append_assoc, List.singleton_append, ← hln] at p3 p4
        refine ⟨σ', ls', ll', lk', lh', lc', p1, p2, p3, p4, q4.trans p5, fun j hj => ?_, fun j hj => ?_⟩
        · rw [p6 j (by omega), q5 j hj]
        · rw [hln] at hj ⊢
          cases j with
          | zero =>
            rw [Nat.add_zero, p6 _ (by omega), q6]
            simp [sl]
          | succ j =>
            rw [List.take_succ_cons, sl_cons, sli_len]
            simp only [List.length_cons] at hj
            have := p7 j (by omega)
            rw [hl1, show T.length + 1 + j = T.length + (j + 1) by omega] at this
            rw [this]
            congr 1
            omega
      by_cases h10 : by_ at_ = 10
      · rw [if_pos h10]
        exact step (Or.inl h10)
      · rw [if_neg h10]
        have e2 : (nI at_ = nI e - 1) ↔ at_ + 1 = e := by
          obtain ⟨e', rfl⟩ : ∃ e', e = e' + 1 := ⟨e - 1, by omega⟩
          rw [nI_pred, nI_eq (by omega) (by omega)]
          omega
        simp only [e2]
        by_cases hl : at_ + 1 = e
        · rw [if_pos hl]
          exact step (Or.inr hl)
        · rw [if_neg hl, nI_1]
          have hln : lnA (sli by_ l (at_ - l)) (sli by_ at_ (e - at_)) = lnA (sli by_ l (at_ + 1 - l)) (sli by_ (at_ + 1) (e - (at_ + 1))) := by
            rw [hd, sli_cons, lnA, if_neg h10, hacc, hd2]
          rw [hln]
          exact ih l (at_ + 1) σ ls ll lk lh lc T hB hL hw (by omega) (by omega) (by omega) (by omega)
theorem Bl_roughLoop {σ : am_S} {st ro fl lcs wt : Nat → Int32} {nb e : Nat} (hB : BlR σ o by_ st ro fl lcs wt nb) (he : e ≤ 32768) {kk : Int32 → Option Int32} : ∀ (m at_ c : Nat), at_ ≤ e → c ≤ at_ → e - at_ < m → f_Bl_looksRough_l5 σ F o (nI e) kk m (nI c) (nI at_) = if (0 : Int32) ∈ sli by_ at_ (e - at_) then some 1 else kk (nI (c + cntL (sli by_ at_ (e - at_)))) := by
  obtain ⟨b1, b2, -⟩ := hB
  intro m
  induction m with
  | zero => intro at_ c _ _ h; omega
  | succ m ih =>
    intro at_ c h1 h2 h3
    rw [f_Bl_looksRough_l5]
    by_cases hc : e ≤ at_
    · rw [if_pos (nI_le hc (by omega)), show e - at_ = 0 by omega, sli_zero]
      simp [cntL]
    · rw [if_neg (nI_ge (by omega) (by omega))]
      obtain ⟨d, hd⟩ : ∃ d, e - at_ = d + 1 := ⟨e - at_ - 1, by omega⟩
      have hd2 : e - (at_ + 1) = d := by omega
      simp (disch := first | omega | (simp only [List.length_cons, List.length_nil] <;> omega)) only [sx_ck, xk_s, sx_gI, sx_gA, xg_s, xi_s, xa_s, List.getElem?_cons_zero, List.getElem?_cons_succ, sx_lI, sx_lA, xl_s, xl_v, sx_pI, sx_pA, xp_s, List.set_cons_zero, List.set_cons_succ, sx_sI, sx_sB, sx_sZ, sx_sS, xs_s, sx_cp, xc_s, put_at, put_ne, new_at, new_ne, Option.bind_some, am_b2, sx_len, xn_s, b1, b2, nI_1]
      rw [hd, sli_cons, cntL]
      by_cases h0 : by_ at_ = 0
      · rw [if_pos h0, if_pos (by simp [h0])]
      · rw [if_neg h0]
        have e0 : ((0 : Int32) ∈ by_ at_ :: sli by_ (at_ + 1) d) ↔ (0 : Int32) ∈ sli by_ (at_ + 1) d := by
          rw [List.mem_cons]
          constructor
          · rintro (z | z)
            · exact absurd z.symm h0
            · exact z
          · exact Or.inr
        have e2 : (nI at_ = nI e - 1) ↔ at_ + 1 = e := by
          obtain ⟨e', rfl⟩ : ∃ e', e = e' + 1 := ⟨e - 1, by omega⟩
          rw [nI_pred, nI_eq (by omega) (by omega)]
          omega
        have i1 := ih (at_ + 1) (c + 1) (by omega) (by omega) (by omega)
        have i2 := ih (at_ + 1) c (by omega) (by omega) (by omega)
        rw [hd2] at i1 i2
        simp only [e0, e2, i1, i2]
        by_cases h10 : by_ at_ = 10
        · rw [if_pos h10, if_pos (Or.inl h10), Nat.add_assoc]
        · rw [if_neg h10]
          by_cases hl : at_ + 1 = e
          · have : d = 0 := by omega
            subst this
            rw [if_pos hl, if_pos (Or.inr (sli_zero _ _)), Nat.add_assoc]
          · have hne : ¬ (by_ at_ = 10 ∨ sli by_ (at_ + 1) d = []) := by
              rintro (z | z)
              · exact h10 z
              · have := congrArg List.length z
                rw [sli_len] at this
                simp at this
                omega
            rw [if_neg hl, if_neg hne, Nat.zero_add]
theorem Bl_rough {σ : am_S} {st ro fl lcs wt : Nat → Int32} {nb e s : Nat} (hB : BlR σ o by_ st ro fl lcs wt nb) (hs : s ≤ e) (he : e ≤ 32768) (hF : 32768 < F) : f_Bl_looksRough F σ o (nI s) (nI e) = some (bo (rgh (sli by_ s (e - s)))) := by
  unfold f_Bl_looksRough
  rw [am_ck_of hB.1, ← nI_0, Bl_roughLoop hB he F s 0 hs (by omega) (by omega)]
  unfold f_Bl_looksRough_j52 rgh lns
  have hl := lnA_len (sli by_ s (e - s)) [] (Or.inr rfl)
  have hle := cntL_le (sli by_ s (e - s))
  rw [sli_len] at hle
  rw [hl, Nat.zero_add]
  by_cases h0 : (0 : Int32) ∈ sli by_ s (e - s)
  · simp [h0, bo]
  · rw [if_neg h0]
    have e1 : (nI (cntL (sli by_ s (e - s))) ≤ (200 : Int32)) ↔ cntL (sli by_ s (e - s)) ≤ 200 := nI_leI (b := 200) (by omega) (by omega)
    simp only [e1]
    by_cases h : cntL (sli by_ s (e - s)) ≤ 200
    · rw [if_pos h]
      simp [h0, bo, h]
    · rw [if_neg h]
      simp [h0, bo]
      omega
end BL1
