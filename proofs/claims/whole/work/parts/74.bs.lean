/-! ===== L3: Blobs: common length, score ===== -/
/-- the length of LINES that are common: w counts what waits, by kind -/
def clen (kf : List Int32 → Nat) : (Nat → Nat) → List (List Int32) → Nat
  | _, [] => 0
  | w, q :: ys => if w (kf q) = 0 then clen kf w ys else q.length + clen kf (fun j => if j = kf q then w j - 1 else w j) ys
theorem clen_le (kf : List Int32 → Nat) : ∀ (ys : List (List Int32)) (w : Nat → Nat), clen kf w ys ≤ sl ys
  | [], w => by simp [clen]
  | q :: ys, w => by
    unfold clen
    rw [sl_cons]
    split
    · have := clen_le kf ys w; omega
    · have := clen_le kf ys (fun j => if j = kf q then w j - 1 else w j); omega
abbrev WtS (o : Nat) : Nat → Prop := fun a => a = o + 12
theorem Bl.w {σ : am_S} {o : Nat} {B : List (List Int32)} (h : Bl σ o B) (w : Nat → Int32) : Bl (am_put σ (o + 12) (cI 32768 w)) o B := by
  obtain ⟨by_, st, ro, fl, lc, wt, ls, ll, lk, lh, lch, ⟨b1, b2, b3, b4, b5, b6, b7⟩, ⟨l1, l2, l3, l4, l5, l6, l7⟩, h3⟩ := h
  exact ⟨by_, st, ro, fl, lc, w, ls, ll, lk, lh, lch, ⟨by simp (disch := omega) only [put_at, put_ne, new_at, new_ne, b1], by simp (disch := omega) only [put_at, put_ne, new_at, new_ne, b2], by simp (disch := omega) only [put_at, put_ne, new_at, new_ne, b3], by simp (disch := omega) only [put_at, put_ne, new_at, new_ne, b4], by simp (disch := omega) only [put_at, put_ne, new_at, new_ne, b5], by simp (disch := omega) only [put_at, put_ne, new_at, new_ne, b6], by simp (disch := omega) only [put_at, put_ne, new_at, new_ne]⟩, ⟨by simp (disch := omega) only [put_at, put_ne, new_at, new_ne, l1], by simp (disch := omega) only [put_at, put_ne, new_at, new_ne, l2], by simp (disch := omega) only [put_at, put_ne, new_at, new_ne, l3], by simp (disch := omega) only [put_at, put_ne, new_at, new_ne, l4], by simp (disch := omega) only [put_at, put_ne, new_at, new_ne, l5], by simp (disch := omega) only [put_at, put_ne, new_at, new_ne, l6], by simp (disch := omega) only [put_at, put_ne, new_at, new_ne, l7]⟩, h3⟩
theorem tls_le {σ : am_S} {o : Nat} {B : List (List Int32)} (h : Bl σ o B) : (tls B).length ≤ 32768 := by
  obtain ⟨by_, st, ro, fl, lc, wt, ls, ll, lk, lh, lch, -, -, ⟨w1, w2, -⟩, ⟨v1, -⟩⟩ := h
  omega
theorem tls_mem {B : List (List Int32)} {k : Nat} (hk : k < B.length) {q : List Int32} (hq : q ∈ tln B[k]) : q ∈ tls B := List.mem_flatMap.mpr ⟨B[k], List.getElem_mem hk, hq⟩
section BS
variable {o F : Nat} {B : List (List Int32)} {x y : Nat}
/-- how often a kind is in a row of LINES -/
def kct (B : List (List Int32)) (l : List (List Int32)) (j : Nat) : Nat := (l.map (ix (tls B))).count j
theorem Bl_lcs {σ : am_S} (h : Bl σ o B) (hx : x < B.length) : (am_gA σ 2 4 o).bind (fun v1 => am_lI σ .int v1 (nI x)) = some (nI (tln B[x]).length) ∧ ∃ wt, σ.2.2 (o + 12) = some (cI 32768 wt) := by
  obtain ⟨by_, st, ro, fl, lc, wt, ls, ll, lk, lh, lch, ⟨b1, b2, b3, b4, b5, b6, b7⟩, -, ⟨w1, w2, w3, w4, w5, w6⟩, -⟩ := h
  refine ⟨?_, wt, b7⟩
  simp (disch := first | omega | (simp only [List.length_cons, List.length_nil] <;> omega)) only [sx_ck, xk_s, sx_gI, sx_gA, xg_s, xi_s, xa_s, List.getElem?_cons_zero, List.getElem?_cons_succ, sx_lI, sx_lA, xl_s, xl_v, sx_pI, sx_pA, xp_s, List.set_cons_zero, List.set_cons_succ, sx_sI, sx_sB, sx_sZ, sx_sS, xs_s, sx_cp, xc_s, put_at, put_ne, new_at, new_ne, Option.bind_some, am_b2, sx_len, xn_s, b1, b6]
  rw [(w6 x hx).2.2.1, tln_len]
theorem Bl_o {σ : am_S} (h : Bl σ o B) : ∃ by_ lc : Nat → Int32, σ.2.2 o = some (cO 2 [.ref (o + 1), .ref (o + 2), .ref (o + 3), .ref (o + 4), .ref (o + 5), .ref (o + 6), .ref (o + 12), .int (nI B.length)]) ∧ σ.2.2 (o + 1) = some (cB 32768 by_) ∧ σ.2.2 (o + 5) = some (cI 500 lc) ∧ B.length ≤ 500 ∧ (∀ k (hk : k < B.length), lc k = nI (tln B[k]).length) := by
  obtain ⟨by_, st, ro, fl, lc, wt, ls, ll, lk, lh, lch, ⟨b1, b2, b3, b4, b5, b6, b7⟩, -, ⟨w1, w2, w3, w4, w5, w6⟩, -⟩ := h
  exact ⟨by_, lc, b1, b2, b6, w1, fun k hk => by rw [(w6 k hk).2.2.1, tln_len]⟩
theorem Bl_cl1 (hx : x < B.length) (h8 : 8 ≤ o) {kk : am_S → Option (Int32 × am_S)} : ∀ (m k : Nat) (σ : am_S) (wt : Nat → Int32) (w : Nat → Nat), Bl σ o B → σ.2.2 (o + 12) = some (cI 32768 wt) → (∀ j, j < 32768 → wt j = nI (w j)) → k ≤ (tln B[x]).length → (tln B[x]).length - k < m →
    ∃ σ' wt', f_Bl_commonLength_l2 F o (nI x) kk m (nI k) σ = kk σ' ∧ Bl σ' o B ∧ σ'.2.2 (o + 12) = some (cI 32768 wt') ∧ (∀ j, j < 32768 → wt' j = nI (w j + kct B ((tln B[x]).drop k) j)) ∧ Fr (WtS o) σ σ' := by
  intro m
  induction m with
  | zero => intro k _ _ _ _ _ _ _ h; omega
  | succ m ih =>
    intro k σ wt w hB hw h1 h2 h3
    obtain ⟨by_, lc, b1, b2, b6, w1, hlc⟩ := Bl_o hB
    have h200 := lcn_le B[x]
    rw [← tln_len] at h200
    rw [f_Bl_commonLength_l2]
    by_cases hc : (tln B[x]).length ≤ k
    · simp (disch := first | omega | (simp only [List.length_cons, List.length_nil] <;> omega)) only [sx_ck, xk_s, sx_gI, sx_gA, xg_s, xi_s, xa_s, List.getElem?_cons_zero, List.getElem?_cons_succ, sx_lI, sx_lA, xl_s, xl_v, sx_pI, sx_pA, xp_s, List.set_cons_zero, List.set_cons_succ, sx_sI, sx_sB, sx_sZ, sx_sS, xs_s, sx_cp, xc_s, put_at, put_ne, new_at, new_ne, Option.bind_some, am_b2, sx_len, xn_s, b1, b6, hlc]
      rw [if_pos (nI_le hc (by omega)), List.drop_eq_nil_of_le hc]
      exact ⟨σ, wt, rfl, hB, hw, fun j hj => by rw [h1 j hj]; rfl, Fr.refl _ _⟩
    · have hk : k < (tln B[x]).length := by omega
      rw [Bl_kind (F := F) hB hx hk]
      have hmem := tls_mem hx (List.getElem_mem hk)
      have hix := ix_mem.mpr hmem
      have hle := tls_le hB
      simp (disch := first | omega | (simp only [List.length_cons, List.length_nil] <;> omega)) only [sx_ck, xk_s, sx_gI, sx_gA, xg_s, xi_s, xa_s, List.getElem?_cons_zero, List.getElem?_cons_succ, sx_lI, sx_lA, xl_s, xl_v, sx_pI, sx_pA, xp_s, List.set_cons_zero, List.set_cons_succ, sx_sI, sx_sB, sx_sZ, sx_sS, xs_s, sx_cp, xc_s, put_at, put_ne, new_at, new_ne, Option.bind_some, am_b2, sx_len, xn_s, b1, b6, hlc, hw, nI_1, h1]
      rw [if_neg (nI_ge (by omega) (by omega))]
      generalize hτ : am_put _ _ _ = τ
      obtain ⟨σ', wt', q1, q2, q3, q4, q5⟩ := ih (k + 1) τ _ (fun j => if j = ix (tls B) (tln B[x])[k] then w j + 1 else w j) (hτ ▸ hB.w _) (at_top hτ) (fun j hj => by
        by_cases e : j = ix (tls B) (tln B[x])[k]
        · subst e
          rw [uf_same, if_pos rfl]
        · rw [uf_ne e, if_neg e, h1 j hj]) (by omega) (by omega)
      refine ⟨σ', wt', q1, q2, q3, fun j hj => ?_, (hτ ▸ (Fr.refl _ _).p rfl : Fr (WtS o) σ τ).trans q5⟩
      rw [q4 j hj, List.drop_eq_getElem_cons hk]
      congr 1
      unfold kct
      rw [List.map_cons, List.count_cons]
      by_cases e : j = ix (tls B) (tln B[x])[k]
      · rw [if_pos e, if_pos (by simp [e])]
        omega
      · rw [if_neg e, if_neg (by simp; exact fun z => e z.symm)]
        rfl
theorem Bl_cl2 (hy : y < B.length) (h8 : 8 ≤ o) {kk : Int32 → am_S → Option (Int32 × am_S)} : ∀ (m k c : Nat) (σ : am_S) (wt : Nat → Int32) (w : Nat → Nat), Bl σ o B → σ.2.2 (o + 12) = some (cI 32768 wt) → (∀ j, j < 32768 → wt j = nI (w j)) → (∀ j, w j ≤ 200) → k ≤ (tln B[y]).length → (tln B[y]).length - k < m → c + sl ((tln B[y]).drop k) ≤ 32768 →
    ∃ (σ' : am_S) (wt' : Nat → Int32) (w' : Nat → Nat), f_Bl_commonLength_l38 F o (nI y) kk m (nI c) (nI k) σ = kk (nI (c + clen (ix (tls B)) w ((tln B[y]).drop k))) σ' ∧ Bl σ' o B ∧ σ'.2.2 (o + 12) = some (cI 32768 wt') ∧ (∀ j, j < 32768 → wt' j = nI (w' j)) ∧ (∀ j, w' j ≤ w j) ∧ Fr (WtS o) σ σ' := by
  intro m
  induction m with
  | zero => intro k _ _ _ _ _ _ _ _ _ h; omega
  | succ m ih =>
    intro k c σ wt w hB hw h1 h0 h2 h3 h4
    obtain ⟨by_, lc, b1, b2, b6, w1, hlc⟩ := Bl_o hB
    have h200 := lcn_le B[y]
    rw [← tln_len] at h200
    rw [f_Bl_commonLength_l38]
    by_cases hc : (tln B[y]).length ≤ k
    · simp (disch := first | omega | (simp only [List.length_cons, List.length_nil] <;> omega)) only [sx_ck, xk_s, sx_gI, sx_gA, xg_s, xi_s, xa_s, List.getElem?_cons_zero, List.getElem?_cons_succ, sx_lI, sx_lA, xl_s, xl_v, sx_pI, sx_pA, xp_s, List.set_cons_zero, List.set_cons_succ, sx_sI, sx_sB, sx_sZ, sx_sS, xs_s, sx_cp, xc_s, put_at, put_ne, new_at, new_ne, Option.bind_some, am_b2, sx_len, xn_s, b1, b6, hlc]
      rw [if_pos (nI_le hc (by omega)), List.drop_eq_nil_of_le hc]
      exact ⟨σ, wt, w, rfl, hB, hw, h1, fun j => Nat.le_refl _, Fr.refl _ _⟩
    · have hk : k < (tln B[y]).length := by omega
      have hmem := tls_mem hy (List.getElem_mem hk)
      have hix := ix_mem.mpr hmem
      have hle := tls_le hB
      have hg := ix_get hix
      rw [Bl_kind (F := F) hB hy hk]
      rw [List.drop_eq_getElem_cons hk, sl_cons] at h4
      have hw0 := h0 (ix (tls B) (tln B[y])[k])
      simp (disch := first | omega | (simp only [List.length_cons, List.length_nil] <;> omega)) only [sx_ck, xk_s, sx_gI, sx_gA, xg_s, xi_s, xa_s, List.getElem?_cons_zero, List.getElem?_cons_succ, sx_lI, sx_lA, xl_s, xl_v, sx_pI, sx_pA, xp_s, List.set_cons_zero, List.set_cons_succ, sx_sI, sx_sB, sx_sZ, sx_sS, xs_s, sx_cp, xc_s, put_at, put_ne, new_at, new_ne, Option.bind_some, am_b2, sx_len, xn_s, b1, b6, hlc, hw, h1]
      rw [if_neg (nI_ge (by omega) (by omega)), List.drop_eq_getElem_cons hk, clen]
      by_cases hz : w (ix (tls B) (tln B[y])[k]) = 0
      · rw [if_pos hz, hz, nI_0, if_pos (by decide), nI_1]
        exact ih (k + 1) c σ wt w hB hw h1 h0 (by omega) (by omega) (by omega)
      · rw [if_neg hz, if_neg (nI_nle (by omega) (by omega))]
        obtain ⟨by2, st, ro, fl, lc2, wt2, ls, ll, lk, lh, lch, -, ⟨l1, l2, l3, l4, l5, l6, l7⟩, -, ⟨v1, v2, v3, v4⟩⟩ := id hB
        obtain ⟨s', u1, u2, u3, u4⟩ := v2 _ hix
        rw [hg] at u3
        have e1 : nI (w (ix (tls B) (tln B[y])[k])) - 1 = nI (w (ix (tls B) (tln B[y])[k]) - 1) := nI_sub (b := 1) (by omega)
        simp (disch := first | omega | (simp only [List.length_cons, List.length_nil] <;> omega)) only [sx_ck, xk_s, sx_gI, sx_gA, xg_s, xi_s, xa_s, List.getElem?_cons_zero, List.getElem?_cons_succ, sx_lI, sx_lA, xl_s, xl_v, sx_pI, sx_pA, xp_s, List.set_cons_zero, List.set_cons_succ, sx_sI, sx_sB, sx_sZ, sx_sS, xs_s, sx_cp, xc_s, put_at, put_ne, new_at, new_ne, Option.bind_some, am_b2, sx_len, xn_s, b1, l1, l4, u3, nI_add, nI_1, e1]
        generalize hτ : am_put _ _ _ = τ
        obtain ⟨σ', wt', w', q1, q2, q3, q4, q5, q6⟩ := ih (k + 1) (c + (tln B[y])[k].length) τ _ (fun j => if j = ix (tls B) (tln B[y])[k] then w j - 1 else w j) (hτ ▸ hB.w _) (at_top hτ) (fun j hj => by
          by_cases e : j = ix (tls B) (tln B[y])[k]
          · subst e
            rw [uf_same, if_pos rfl]
          · rw [uf_ne e, if_neg e, h1 j hj]) (fun j => by
          have := h0 j
          show (if _ then _ else _) ≤ _
          split
          · exact Nat.le_trans (Nat.sub_le _ _) this
          · exact this) (by omega) (by omega) (by omega)
        refine ⟨σ', wt', w', by rw [← Nat.add_assoc]; exact q1, q2, q3, q4, fun j => ?_, (hτ ▸ (Fr.refl _ _).p rfl : Fr (WtS o) σ τ).trans q6⟩
        have := q5 j
        split at this <;> omega
theorem Bl_cl3 (hx : x < B.length) (h8 : 8 ≤ o) {c : Int32} : ∀ (m k : Nat) (σ : am_S) (wt : Nat → Int32), Bl σ o B → σ.2.2 (o + 12) = some (cI 32768 wt) → k ≤ (tln B[x]).length → (tln B[x]).length - k < m →
    ∃ σ' wt', f_Bl_commonLength_l101 F o (nI x) c m (nI k) σ = some (c, σ') ∧ Bl σ' o B ∧ σ'.2.2 (o + 12) = some (cI 32768 wt') ∧ (∀ j, wt' j = if j ∈ ((tln B[x]).drop k).map (ix (tls B)) then 0 else wt j) ∧ Fr (WtS o) σ σ' := by
  intro m
  induction m with
  | zero => intro k _ _ _ _ _ h; omega
  | succ m ih =>
    intro k σ wt hB hw h2 h3
    obtain ⟨by_, lc, b1, b2, b6, w1, hlc⟩ := Bl_o hB
    have h200 := lcn_le B[x]
    rw [← tln_len] at h200
    rw [f_Bl_commonLength_l101]
    by_cases hc : (tln B[x]).length ≤ k
    · simp (disch := first | omega | (simp only [List.length_cons, List.length_nil] <;> omega)) only [sx_ck, xk_s, sx_gI, sx_gA, xg_s, xi_s, xa_s, List.getElem?_cons_zero, List.getElem?_cons_succ, sx_lI, sx_lA, xl_s, xl_v, sx_pI, sx_pA, xp_s, List.set_cons_zero, List.set_cons_succ, sx_sI, sx_sB, sx_sZ, sx_sS, xs_s, sx_cp, xc_s, put_at, put_ne, new_at, new_ne, Option.bind_some, am_b2, sx_len, xn_s, b1, b6, hlc]
      rw [if_pos (nI_le hc (by omega)), List.drop_eq_nil_of_le hc]
      exact ⟨σ, wt, rfl, hB, hw, fun j => by simp, Fr.refl _ _⟩
    · have hk : k < (tln B[x]).length := by omega
      rw [Bl_kind (F := F) hB hx hk]
      have hmem := tls_mem hx (List.getElem_mem hk)
      have hix := ix_mem.mpr hmem
      have hle := tls_le hB
      simp (disch := first | omega | (simp only [List.length_cons, List.length_nil] <;> omega)) only [sx_ck, xk_s, sx_gI, sx_gA, xg_s, xi_s, xa_s, List.getElem?_cons_zero, List.getElem?_cons_succ, sx_lI, sx_lA, xl_s, xl_v, sx_pI, sx_pA, xp_s, List.set_cons_zero, List.set_cons_succ, sx_sI, sx_sB, sx_sZ, sx_sS, xs_s, sx_cp, xc_s, put_at, put_ne, new_at, new_ne, Option.bind_some, am_b2, sx_len, xn_s, b1, b6, hlc, hw, nI_1]
      rw [if_neg (nI_ge (by omega) (by omega))]
      generalize hτ : am_put _ _ _ = τ
      obtain ⟨σ', wt', q1, q2, q3, q4, q5⟩ := ih (k + 1) τ _ (hτ ▸ hB.w _) (at_top hτ) (by omega) (by omega)
      refine ⟨σ', wt', q1, q2, q3, fun j => ?_, (hτ ▸ (Fr.refl _ _).p rfl : Fr (WtS o) σ τ).trans q5⟩
      rw [q4 j, List.drop_eq_getElem_cons hk, List.map_cons]
      simp only [List.mem_cons]
      by_cases e : j = ix (tls B) (tln B[x])[k]
      · subst e
        rw [uf_same, if_pos (Or.inl rfl)]
        split <;> rfl
      · rw [uf_ne e]
        by_cases e2 : j ∈ ((tln B[x]).drop (k + 1)).map (ix (tls B))
        · rw [if_pos e2, if_pos (Or.inr e2)]
        · rw [if_neg e2, if_neg (fun z => z.elim e e2)]
theorem sl_tln_le (t : List Int32) : sl (tln t) ≤ t.length := by
  unfold tln
  split
  · simp [sl]
  · rw [← sl_flat, lns_flat]
    exact Nat.le_refl _
/-- the length of common LINES -/
def comL (B : List (List Int32)) (x y : List (List Int32)) : Nat := clen (ix (tls B)) (kct B x) y
theorem Bl_common {σ : am_S} (hB : Bl σ o B) (hz : Wz σ o) (h8 : 8 ≤ o) (hx : x < B.length) (hy : y < B.length) (hF : 32768 < F) : ∃ σ', f_Bl_commonLength F σ o (nI x) (nI y) = some (nI (comL B (tln B[x]) (tln B[y])), σ') ∧ Bl σ' o B ∧ Wz σ' o ∧ Fr (WtS o) σ σ' := by
  obtain ⟨wt, hw, hw0⟩ := hz
  have h200x := lcn_le B[x]
  have h200y := lcn_le B[y]
  rw [← tln_len] at h200x h200y
  obtain ⟨by_, lc, b1, b2, b6, w1, hlc⟩ := Bl_o hB
  have hly : B[y].length ≤ 4096 := by
    obtain ⟨by_, st, ro, fl, lc, wt, ls, ll, lk, lh, lch, -, -, ⟨-, -, w3, -⟩, -⟩ := hB
    exact w3 y hy
  have hsy := sl_tln_le B[y]
  unfold f_Bl_commonLength
  rw [am_ck_of b1, ← nI_0]
  obtain ⟨σ1, wt1, p1, p2, p3, p4, p5⟩ := Bl_cl1 (F := F) (kk := fun τ => f_Bl_commonLength_j33 F o (nI x) (nI y) τ) hx h8 F 0 σ wt (fun _ => 0) hB hw (fun j hj => hw0 j hj) (by omega) (by omega)
  rw [p1]
  unfold f_Bl_commonLength_j33
  rw [← nI_0]
  have hk200 : ∀ j, kct B (tln B[x]) j ≤ 200 := fun j => by
    unfold kct
    have := List.count_le_length (a := j) (l := (tln B[x]).map (ix (tls B)))
    rw [List.length_map] at this
    omega
  obtain ⟨σ2, wt2, w2, q1, q2, q3, q4, q5, q6⟩ := Bl_cl2 (F := F) (kk := fun y3 τ => f_Bl_commonLength_j98 F o (nI x) y3 τ) hy h8 F 0 0 σ1 wt1 (kct B (tln B[x])) p2 p3 (fun j hj => by rw [p4 j hj, List.drop_zero, Nat.zero_add]) hk200 (by omega) (by omega) (by rw [List.drop_zero]; omega)
  rw [q1]
  unfold f_Bl_commonLength_j98
  rw [← nI_0]
  obtain ⟨σ3, wt3, r1, r2, r3, r4, r5⟩ := Bl_cl3 (F := F) (c := nI (0 + clen (ix (tls B)) (kct B (tln B[x])) ((tln B[y]).drop 0))) hx h8 F 0 σ2 wt2 q2 q3 (by omega) (by omega)
  rw [r1, Nat.zero_add, List.drop_zero]
  refine ⟨σ3, rfl, r2, ⟨wt3, r3, fun j hj => ?_⟩, (p5.trans q6).trans r5⟩
  rw [r4 j]
  split
  · rfl
  · rename_i hn
    have h0 : kct B (tln B[x]) j = 0 := by
      unfold kct
      apply List.count_eq_zero_of_not_mem
      rw [List.drop_zero] at hn
      exact hn
    have := q5 j
    rw [q4 j hj, show w2 j = 0 by omega, nI_0]
/-- SCORE, by numbers of BLOBS -/
def scr (B : List (List Int32)) (x y : Nat) : Nat :=
  if x = y then 1000 else if rgh (B.getD x []) || rgh (B.getD y []) then 0 else
    if max (B.getD x []).length (B.getD y []).length = 0 then 0 else 1000 * comL B (tln (B.getD x [])) (tln (B.getD y [])) / max (B.getD x []).length (B.getD y []).length
theorem comL_le (hx : x < B.length) (hy : y < B.length) : comL B (tln B[x]) (tln B[y]) ≤ B[y].length := by
  have h1 := clen_le (ix (tls B)) (tln B[y]) (kct B (tln B[x]))
  have h2 := sl_tln_le B[y]
  unfold comL
  omega
theorem Bl_score {σ : am_S} (hB : Bl σ o B) (hz : Wz σ o) (h8 : 8 ≤ o) (hx : x < B.length) (hy : y < B.length) (hF : 32768 < F) : ∃ σ', f_Bl_score F σ o (nI x) (nI y) = some (nI (scr B x y), σ') ∧ Bl σ' o B ∧ Wz σ' o ∧ Fr (WtS o) σ σ' := by
  have hlx := Bl_len (F := F) hB hx
  have hly := Bl_len (F := F) hB hy
  obtain ⟨σ', c1, c2, c3, c4⟩ := Bl_common (F := F) hB hz h8 hx hy hF
  have hcl := comL_le (B := B) hx hy
  obtain ⟨by_, st, ro, fl, lc, wt, ls, ll, lk, lh, lch, ⟨b1, b2, b3, b4, -⟩, -, ⟨w1, w2, w3, w4, w5, w6⟩, -⟩ := id hB
  have h3x := w3 x hx
  have h3y := w3 y hy
  have gx : B.getD x [] = B[x] := by simp [hx]
  have gy : B.getD y [] = B[y] := by simp [hy]
  unfold f_Bl_score
  rw [hlx, hly, c1]
  simp (disch := first | omega | (simp only [List.length_cons, List.length_nil] <;> omega)) only [sx_ck, xk_s, sx_gI, sx_gA, xg_s, xi_s, xa_s, List.getElem?_cons_zero, List.getElem?_cons_succ, sx_lI, sx_lA, xl_s, xl_v, sx_pI, sx_pA, xp_s, List.set_cons_zero, List.set_cons_succ, sx_sI, sx_sB, sx_sZ, sx_sS, xs_s, sx_cp, xc_s, put_at, put_ne, new_at, new_ne, Option.bind_some, am_b2, sx_len, xn_s, b1, b4, (w6 x hx).1, (w6 y hy).1, max_nI, bo_0, nI_eq]
  unfold scr
  rw [gx, gy]
  by_cases e : x = y
  · rw [if_pos e, if_pos e]
    exact ⟨σ, rfl, hB, hz, Fr.refl _ _⟩
  · rw [if_neg e, if_neg e]
    cases hrx : rgh B[x] with
    | true =>
      simp only [Bool.true_or, if_true, Bool.true_eq_false, if_false]
      exact ⟨σ, rfl, hB, hz, Fr.refl _ _⟩
    | false =>
      simp only [Bool.false_or, if_true]
      cases hry : rgh B[y] with
      | true =>
        simp only [if_true, Bool.true_eq_false, if_false]
        exact ⟨σ, rfl, hB, hz, Fr.refl _ _⟩
      | false =>
        simp only [Bool.false_eq_true, if_false, if_true]
        have hmx : max B[x].length B[y].length ≤ 4096 := Nat.max_le.mpr ⟨h3x, h3y⟩
        have e0 : (nI (max B[x].length B[y].length) = 0) ↔ max B[x].length B[y].length = 0 := nI_eq (b := 0) (by omega) (by omega)
        simp only [e0]
        by_cases hm : max B[x].length B[y].length = 0
        · rw [if_pos hm, if_pos hm]
          exact ⟨σ, rfl, hB, hz, Fr.refl _ _⟩
        · rw [if_neg hm, if_neg hm, if_neg hm]
          have e1 : (1000 : Int32) * nI (comL B (tln B[x]) (tln B[y])) = nI (1000 * comL B (tln B[x]) (tln B[y])) := nI_mul 1000 _
          rw [e1, nI_div (by omega) (by omega) (by omega)]
          exact ⟨σ', rfl, c2, c3, c4⟩
end BS
