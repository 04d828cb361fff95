/-! ===== L3: Blobs: what they hold, reads, adding ===== -/
def BlW (B : List (List Int32)) (by_ st ro fl lc ls : Nat → Int32) : Prop :=
  B.length ≤ 500 ∧ sl B ≤ 32768 ∧ (∀ k (h : k < B.length), B[k].length ≤ 4096) ∧ sli by_ 0 (sl B) = B.flatten ∧ (∀ k, k ≤ B.length → st k = nI (sl (B.take k))) ∧
  (∀ k (h : k < B.length), ro k = bo (rgh B[k]) ∧ fl k = nI (tls (B.take k)).length ∧ lc k = nI (lcn B[k]) ∧ ∀ j, j < lcn B[k] → ls ((tls (B.take k)).length + j) = nI (sl (B.take k) + sl ((tln B[k]).take j)))
def Bl (σ : am_S) (o : Nat) (B : List (List Int32)) : Prop := ∃ by_ st ro fl lc wt ls ll lk lh lch : Nat → Int32, BlR σ o by_ st ro fl lc wt B.length ∧ LtR σ o by_ ls ll lk lh lch (tls B).length ∧ BlW B by_ st ro fl lc ls ∧ LtW by_ ls ll lk lh lch (tls B) (sl B)
abbrev BlS (o : Nat) : Nat → Prop := fun a => o ≤ a ∧ a ≤ o + 12
theorem BlR.fr {σ σ1 : am_S} {o n : Nat} {by_ st ro fl lc wt : Nat → Int32} {S : Nat → Prop} (h : BlR σ o by_ st ro fl lc wt n) (hf : Fr S σ σ1) (hd : ∀ a, o ≤ a → a ≤ o + 12 → ¬ S a) : BlR σ1 o by_ st ro fl lc wt n := by
  obtain ⟨h1, h2, h3, h4, h5, h6, h7⟩ := h
  exact ⟨hf.at (hd _ (by omega) (by omega)) h1, hf.at (hd _ (by omega) (by omega)) h2, hf.at (hd _ (by omega) (by omega)) h3, hf.at (hd _ (by omega) (by omega)) h4, hf.at (hd _ (by omega) (by omega)) h5, hf.at (hd _ (by omega) (by omega)) h6, hf.at (hd _ (by omega) (by omega)) h7⟩
theorem LtR.fr {σ σ1 : am_S} {o n : Nat} {by_ ls ll lk lh lc : Nat → Int32} {S : Nat → Prop} (h : LtR σ o by_ ls ll lk lh lc n) (hf : Fr S σ σ1) (hd : ∀ a, o ≤ a → a ≤ o + 11 → ¬ S a) : LtR σ1 o by_ ls ll lk lh lc n := by
  obtain ⟨h1, h2, h3, h4, h5, h6, h7⟩ := h
  exact ⟨hf.at (hd _ (by omega) (by omega)) h1, hf.at (hd _ (by omega) (by omega)) h2, hf.at (hd _ (by omega) (by omega)) h3, hf.at (hd _ (by omega) (by omega)) h4, hf.at (hd _ (by omega) (by omega)) h5, hf.at (hd _ (by omega) (by omega)) h6, hf.at (hd _ (by omega) (by omega)) h7⟩
theorem Bl.fr {σ σ1 : am_S} {o : Nat} {B : List (List Int32)} {S : Nat → Prop} (h : Bl σ o B) (hf : Fr S σ σ1) (hd : ∀ a, o ≤ a → a ≤ o + 12 → ¬ S a) : Bl σ1 o B := by
  obtain ⟨by_, st, ro, fl, lc, wt, ls, ll, lk, lh, lch, h1, h2, h3⟩ := h
  exact ⟨by_, st, ro, fl, lc, wt, ls, ll, lk, lh, lch, h1.fr hf hd, h2.fr hf fun a q1 q2 => hd a q1 (by omega), h3⟩
theorem sl_split (B : List (List Int32)) (k : Nat) : sl B = sl (B.take k) + sl (B.drop k) := by
  have h := sl_app (B.take k) (B.drop k)
  rw [List.take_append_drop] at h
  exact h
theorem sl_get_le {B : List (List Int32)} {k : Nat} (h : k < B.length) : sl (B.take k) + B[k].length ≤ sl B := by
  have h1 := sl_take_succ h
  have h2 := sl_split B (k + 1)
  omega
theorem flat_row {B : List (List Int32)} {f : Nat → Int32} {s : Nat} (hf : sli f s (sl B) = B.flatten) {k : Nat} (h : k < B.length) : sli f (s + sl (B.take k)) B[k].length = B[k] := by
  have e0 : B.flatten = (B.take k).flatten ++ (B[k] ++ (B.drop (k + 1)).flatten) := by
    conv => lhs; rw [← List.take_append_drop k B]
    rw [List.flatten_append, List.drop_eq_getElem_cons h, List.flatten_cons]
  have e1 : sl B = sl (B.take k) + (B[k].length + sl (B.drop (k + 1))) := by
    have h1 := sl_take_succ h
    have h2 := sl_split B (k + 1)
    omega
  rw [e1, sli_app, sli_app, e0] at hf
  obtain ⟨z1, z2⟩ := List.append_inj hf (by rw [sli_len, sl_flat])
  exact (List.append_inj z2 (by rw [sli_len])).1
theorem tls_take_succ {B : List (List Int32)} {k : Nat} (h : k < B.length) : tls (B.take (k + 1)) = tls (B.take k) ++ tln B[k] := by
  rw [List.take_succ_eq_append_getElem h, tls_app, tls_one]
theorem tls_split (B : List (List Int32)) (k : Nat) : tls B = tls (B.take k) ++ tls (B.drop k) := by
  rw [← tls_app, List.take_append_drop]
theorem tls_get {B : List (List Int32)} {k j : Nat} (h : k < B.length) (hj : j < (tln B[k]).length) : (tls B)[(tls (B.take k)).length + j]? = some (tln B[k])[j] := by
  rw [tls_split B (k + 1), tls_take_succ h, List.append_assoc, List.getElem?_append_right (by omega), Nat.add_sub_cancel_left, List.getElem?_append_left hj, List.getElem?_eq_getElem hj]
section BW
variable {σ : am_S} {o F : Nat} {B : List (List Int32)}
theorem Bl_size (h : Bl σ o B) : f_Bl_size F σ o = some (nI B.length) := by
  obtain ⟨by_, st, ro, fl, lc, wt, ls, ll, lk, lh, lch, ⟨b1, -⟩, -⟩ := h
  unfold f_Bl_size
  simp (disch := first | omega | (simp only [List.length_cons, List.length_nil] <;> omega)) only [sx_ck, xk_s, sx_gI, sx_gA, xg_s, xi_s, xa_s, List.getElem?_cons_zero, List.getElem?_cons_succ, sx_lI, sx_lA, xl_s, xl_v, sx_pI, sx_pA, xp_s, List.set_cons_zero, List.set_cons_succ, sx_sI, sx_sB, sx_sZ, sx_sS, xs_s, sx_cp, xc_s, put_at, put_ne, new_at, new_ne, Option.bind_some, am_b2, sx_len, xn_s, b1]
theorem Bl_total (h : Bl σ o B) : f_Bl_totalLength F σ o = some (nI (sl B)) := by
  obtain ⟨by_, st, ro, fl, lc, wt, ls, ll, lk, lh, lch, ⟨b1, b2, b3, -⟩, -, ⟨w1, w2, w3, w4, w5, -⟩, -⟩ := h
  unfold f_Bl_totalLength
  simp (disch := first | omega | (simp only [List.length_cons, List.length_nil] <;> omega)) only [sx_ck, xk_s, sx_gI, sx_gA, xg_s, xi_s, xa_s, List.getElem?_cons_zero, List.getElem?_cons_succ, sx_lI, sx_lA, xl_s, xl_v, sx_pI, sx_pA, xp_s, List.set_cons_zero, List.set_cons_succ, sx_sI, sx_sB, sx_sZ, sx_sS, xs_s, sx_cp, xc_s, put_at, put_ne, new_at, new_ne, Option.bind_some, am_b2, sx_len, xn_s, b1, b3]
  rw [w5 _ (Nat.le_refl _), List.take_length]
theorem Bl_bytes (h : Bl σ o B) : f_Bl_bytes F σ o = some (o + 1) := by
  obtain ⟨by_, st, ro, fl, lc, wt, ls, ll, lk, lh, lch, ⟨b1, -⟩, -⟩ := h
  unfold f_Bl_bytes
  simp (disch := first | omega | (simp only [List.length_cons, List.length_nil] <;> omega)) only [sx_ck, xk_s, sx_gI, sx_gA, xg_s, xi_s, xa_s, List.getElem?_cons_zero, List.getElem?_cons_succ, sx_lI, sx_lA, xl_s, xl_v, sx_pI, sx_pA, xp_s, List.set_cons_zero, List.set_cons_succ, sx_sI, sx_sB, sx_sZ, sx_sS, xs_s, sx_cp, xc_s, put_at, put_ne, new_at, new_ne, Option.bind_some, am_b2, sx_len, xn_s, b1]
theorem Bl_start (h : Bl σ o B) {k : Nat} (hk : k ≤ B.length) : f_Bl_startOf F σ o (nI k) = some (nI (sl (B.take k))) := by
  obtain ⟨by_, st, ro, fl, lc, wt, ls, ll, lk, lh, lch, ⟨b1, b2, b3, -⟩, -, ⟨w1, w2, w3, w4, w5, -⟩, -⟩ := h
  unfold f_Bl_startOf
  simp (disch := first | omega | (simp only [List.length_cons, List.length_nil] <;> omega)) only [sx_ck, xk_s, sx_gI, sx_gA, xg_s, xi_s, xa_s, List.getElem?_cons_zero, List.getElem?_cons_succ, sx_lI, sx_lA, xl_s, xl_v, sx_pI, sx_pA, xp_s, List.set_cons_zero, List.set_cons_succ, sx_sI, sx_sB, sx_sZ, sx_sS, xs_s, sx_cp, xc_s, put_at, put_ne, new_at, new_ne, Option.bind_some, am_b2, sx_len, xn_s, b1, b3, w5]
theorem Bl_len (h : Bl σ o B) {k : Nat} (hk : k < B.length) : f_Bl_lengthOf F σ o (nI k) = some (nI B[k].length) := by
  obtain ⟨by_, st, ro, fl, lc, wt, ls, ll, lk, lh, lch, ⟨b1, b2, b3, -⟩, -, ⟨w1, w2, w3, w4, w5, -⟩, -⟩ := h
  unfold f_Bl_lengthOf
  simp (disch := first | omega | (simp only [List.length_cons, List.length_nil] <;> omega)) only [sx_ck, xk_s, sx_gI, sx_gA, xg_s, xi_s, xa_s, List.getElem?_cons_zero, List.getElem?_cons_succ, sx_lI, sx_lA, xl_s, xl_v, sx_pI, sx_pA, xp_s, List.set_cons_zero, List.set_cons_succ, sx_sI, sx_sB, sx_sZ, sx_sS, xs_s, sx_cp, xc_s, put_at, put_ne, new_at, new_ne, Option.bind_some, am_b2, sx_len, xn_s, b1, b3, w5, nI_1]
  rw [sl_take_succ hk, nI_sub (by omega)]
  congr 2
  omega
theorem Bl_byteAt (h : Bl σ o B) {k j : Nat} (hk : k < B.length) (hj : j < B[k].length) : f_Bl_byteAt F σ o (nI k) (nI j) = some (B[k][j] &&& 255) := by
  obtain ⟨by_, st, ro, fl, lc, wt, ls, ll, lk, lh, lch, ⟨b1, b2, b3, -⟩, -, ⟨w1, w2, w3, w4, w5, -⟩, -⟩ := h
  have hr := flat_row w4 hk
  have hle := sl_get_le hk
  unfold f_Bl_byteAt
  simp (disch := first | omega | (simp only [List.length_cons, List.length_nil] <;> omega)) only [sx_ck, xk_s, sx_gI, sx_gA, xg_s, xi_s, xa_s, List.getElem?_cons_zero, List.getElem?_cons_succ, sx_lI, sx_lA, xl_s, xl_v, sx_pI, sx_pA, xp_s, List.set_cons_zero, List.set_cons_succ, sx_sI, sx_sB, sx_sZ, sx_sS, xs_s, sx_cp, xc_s, put_at, put_ne, new_at, new_ne, Option.bind_some, am_b2, sx_len, xn_s, b1, b2, b3, w5, nI_add]
  have e := sli_get (f := by_) (s := 0 + sl (B.take k)) hj
  rw [hr, List.getElem?_eq_getElem hj] at e
  rw [Option.some.inj e, Nat.zero_add]
/-- a TEXT by number, none for -1 -/
def bT (B : List (List Int32)) (k : Option Nat) : List Int32 := match k with
  | some k => B.getD k []
  | none => []
theorem bT_some {B : List (List Int32)} {k : Nat} (h : k < B.length) : bT B (some k) = B[k] := by
  simp [bT, List.getD, h]
theorem Bl_isRough (h : Bl σ o B) {k : Nat} (hk : k < B.length) : f_Bl_isRough F σ o (nI k) = some (bo (rgh B[k])) := by
  obtain ⟨by_, st, ro, fl, lc, wt, ls, ll, lk, lh, lch, ⟨b1, b2, b3, b4, -⟩, -, ⟨w1, w2, w3, w4, w5, w6⟩, -⟩ := h
  unfold f_Bl_isRough
  simp (disch := first | omega | (simp only [List.length_cons, List.length_nil] <;> omega)) only [sx_ck, xk_s, sx_gI, sx_gA, xg_s, xi_s, xa_s, List.getElem?_cons_zero, List.getElem?_cons_succ, sx_lI, sx_lA, xl_s, xl_v, sx_pI, sx_pA, xp_s, List.set_cons_zero, List.set_cons_succ, sx_sI, sx_sB, sx_sZ, sx_sS, xs_s, sx_cp, xc_s, put_at, put_ne, new_at, new_ne, Option.bind_some, am_b2, sx_len, xn_s, b1, b4]
  rw [if_neg (nI_pos (by omega)), (w6 k hk).1]
  cases rgh B[k] <;> rfl
theorem Bl_isRough' (h : Bl σ o B) : f_Bl_isRough F σ o (-1) = some 0 := by
  obtain ⟨by_, st, ro, fl, lc, wt, ls, ll, lk, lh, lch, ⟨b1, b2, b3, b4, -⟩, -⟩ := h
  unfold f_Bl_isRough
  simp (disch := first | omega | (simp only [List.length_cons, List.length_nil] <;> omega)) only [sx_ck, xk_s, sx_gI, sx_gA, xg_s, xi_s, xa_s, List.getElem?_cons_zero, List.getElem?_cons_succ, sx_lI, sx_lA, xl_s, xl_v, sx_pI, sx_pA, xp_s, List.set_cons_zero, List.set_cons_succ, sx_sI, sx_sB, sx_sZ, sx_sS, xs_s, sx_cp, xc_s, put_at, put_ne, new_at, new_ne, Option.bind_some, am_b2, sx_len, xn_s, b1]
  rfl
theorem Bl_lineCount (h : Bl σ o B) {k : Nat} (hk : k < B.length) : f_Bl_lineCount F σ o (nI k) = some (nI (lcn B[k])) := by
  obtain ⟨by_, st, ro, fl, lc, wt, ls, ll, lk, lh, lch, ⟨b1, b2, b3, b4, b5, b6, -⟩, -, ⟨w1, w2, w3, w4, w5, w6⟩, -⟩ := h
  unfold f_Bl_lineCount
  simp (disch := first | omega | (simp only [List.length_cons, List.length_nil] <;> omega)) only [sx_ck, xk_s, sx_gI, sx_gA, xg_s, xi_s, xa_s, List.getElem?_cons_zero, List.getElem?_cons_succ, sx_lI, sx_lA, xl_s, xl_v, sx_pI, sx_pA, xp_s, List.set_cons_zero, List.set_cons_succ, sx_sI, sx_sB, sx_sZ, sx_sS, xs_s, sx_cp, xc_s, put_at, put_ne, new_at, new_ne, Option.bind_some, am_b2, sx_len, xn_s, b1, b6]
  rw [if_pos (nI_pos' (by omega)), (w6 k hk).2.2.1]
theorem Bl_lineCount' (h : Bl σ o B) : f_Bl_lineCount F σ o (-1) = some 0 := by
  obtain ⟨by_, st, ro, fl, lc, wt, ls, ll, lk, lh, lch, ⟨b1, b2, b3, b4, -⟩, -⟩ := h
  unfold f_Bl_lineCount
  simp (disch := first | omega | (simp only [List.length_cons, List.length_nil] <;> omega)) only [sx_ck, xk_s, sx_gI, sx_gA, xg_s, xi_s, xa_s, List.getElem?_cons_zero, List.getElem?_cons_succ, sx_lI, sx_lA, xl_s, xl_v, sx_pI, sx_pA, xp_s, List.set_cons_zero, List.set_cons_succ, sx_sI, sx_sB, sx_sZ, sx_sS, xs_s, sx_cp, xc_s, put_at, put_ne, new_at, new_ne, Option.bind_some, am_b2, sx_len, xn_s, b1]
  rfl
theorem Bl_kind (h : Bl σ o B) {k j : Nat} (hk : k < B.length) (hj : j < (tln B[k]).length) : f_Bl_lineKind F σ o (nI k) (nI j) = some (nI (ix (tls B) (tln B[k])[j])) := by
  obtain ⟨by_, st, ro, fl, lc, wt, ls, ll, lk, lh, lch, ⟨b1, b2, b3, b4, b5, b6, -⟩, ⟨l1, l2, l3, l4, l5, l6⟩, ⟨w1, w2, w3, w4, w5, w6⟩, ⟨v1, v2, v3, v4⟩⟩ := h
  have hg := tls_get hk hj
  obtain ⟨hlt, hg2⟩ := List.getElem?_eq_some_iff.mp hg
  unfold f_Bl_lineKind
  simp (disch := first | omega | (simp only [List.length_cons, List.length_nil] <;> omega)) only [sx_ck, xk_s, sx_gI, sx_gA, xg_s, xi_s, xa_s, List.getElem?_cons_zero, List.getElem?_cons_succ, sx_lI, sx_lA, xl_s, xl_v, sx_pI, sx_pA, xp_s, List.set_cons_zero, List.set_cons_succ, sx_sI, sx_sB, sx_sZ, sx_sS, xs_s, sx_cp, xc_s, put_at, put_ne, new_at, new_ne, Option.bind_some, am_b2, sx_len, xn_s, b1, b5, l1, (w6 k hk).2.1, nI_add, l5, v3]
  rw [hg2]
theorem tln_flat {t : List Int32} (h : rgh t = false) : (tln t).flatten = t := by
  unfold tln
  rw [h]
  exact lns_flat t
theorem Bl_lineStart (h : Bl σ o B) {k j : Nat} (hk : k < B.length) (hr : rgh B[k] = false) (hj : j ≤ (tln B[k]).length) : f_Bl_lineStart F σ o (nI k) (nI j) = some (nI (sl (B.take k) + sl ((tln B[k]).take j))) := by
  obtain ⟨by_, st, ro, fl, lc, wt, ls, ll, lk, lh, lch, ⟨b1, b2, b3, b4, b5, b6, -⟩, ⟨l1, l2, l3, l4, l5, l6⟩, ⟨w1, w2, w3, w4, w5, w6⟩, ⟨v1, v2, v3, v4⟩⟩ := h
  obtain ⟨q1, q2, q3, q4⟩ := w6 k hk
  have hlc := lcn_le B[k]
  have htl := tln_len B[k]
  unfold f_Bl_lineStart
  simp (disch := first | omega | (simp only [List.length_cons, List.length_nil] <;> omega)) only [sx_ck, xk_s, sx_gI, sx_gA, xg_s, xi_s, xa_s, List.getElem?_cons_zero, List.getElem?_cons_succ, sx_lI, sx_lA, xl_s, xl_v, sx_pI, sx_pA, xp_s, List.set_cons_zero, List.set_cons_succ, sx_sI, sx_sB, sx_sZ, sx_sS, xs_s, sx_cp, xc_s, put_at, put_ne, new_at, new_ne, Option.bind_some, am_b2, sx_len, xn_s, b1, b6, q3]
  by_cases hc : lcn B[k] ≤ j
  · rw [if_pos (nI_le hc (by omega))]
    simp (disch := first | omega | (simp only [List.length_cons, List.length_nil] <;> omega)) only [sx_ck, xk_s, sx_gI, sx_gA, xg_s, xi_s, xa_s, List.getElem?_cons_zero, List.getElem?_cons_succ, sx_lI, sx_lA, xl_s, xl_v, sx_pI, sx_pA, xp_s, List.set_cons_zero, List.set_cons_succ, sx_sI, sx_sB, sx_sZ, sx_sS, xs_s, sx_cp, xc_s, put_at, put_ne, new_at, new_ne, Option.bind_some, am_b2, sx_len, xn_s, b3, nI_1, w5]
    rw [sl_take_succ hk, List.take_of_length_le (l := tln B[k]) (by omega), ← sl_flat (tln B[k]), tln_flat hr]
  · rw [if_neg (nI_ge (by omega) (by omega))]
    have hg := tls_get hk (j := j) (by omega)
    obtain ⟨hlt, hg2⟩ := List.getElem?_eq_some_iff.mp hg
    simp (disch := first | omega | (simp only [List.length_cons, List.length_nil] <;> omega)) only [sx_ck, xk_s, sx_gI, sx_gA, xg_s, xi_s, xa_s, List.getElem?_cons_zero, List.getElem?_cons_succ, sx_lI, sx_lA, xl_s, xl_v, sx_pI, sx_pA, xp_s, List.set_cons_zero, List.set_cons_succ, sx_sI, sx_sB, sx_sZ, sx_sS, xs_s, sx_cp, xc_s, put_at, put_ne, new_at, new_ne, Option.bind_some, am_b2, sx_len, xn_s, b5, q2, l1, nI_add, l3]
    rw [q4 j (by omega)]
variable {b N st n : Nat} {g : Nat → Int32}
/-- the number of a TEXT -/
def bfnd (B : List (List Int32)) (t : List Int32) : Option Nat := B.findIdx? fun e => decide (e = t)
theorem Bl_findLoop (h : Bl σ o B) (hb : σ.2.2 b = some (cB N g)) (hs : st + n ≤ N) (hN : N < 2 ^ 31) (hF : 32768 < F) : ∀ (m k : Nat), k ≤ B.length → B.length - k < m → f_Bl_find_l3 σ F o b (nI st) (nI n) m (nI k) = some (oI (((B.drop k).findIdx? fun e => decide (e = sli g st n)).map (k + ·))) := by
  have hlen := fun k (hk : k < B.length) => Bl_len (F := F) h hk
  obtain ⟨by_, sta, ro, fl, lc, wt, ls, ll, lk, lh, lch, ⟨b1, b2, b3, -⟩, -, ⟨w1, w2, w3, w4, w5, -⟩, -⟩ := h
  intro m
  induction m with
  | zero => intro k _ h; omega
  | succ m ih =>
    intro k hk hm
    rw [f_Bl_find_l3]
    by_cases hc : B.length ≤ k
    · simp (disch := first | omega | (simp only [List.length_cons, List.length_nil] <;> omega)) only [sx_ck, xk_s, sx_gI, sx_gA, xg_s, xi_s, xa_s, List.getElem?_cons_zero, List.getElem?_cons_succ, sx_lI, sx_lA, xl_s, xl_v, sx_pI, sx_pA, xp_s, List.set_cons_zero, List.set_cons_succ, sx_sI, sx_sB, sx_sZ, sx_sS, xs_s, sx_cp, xc_s, put_at, put_ne, new_at, new_ne, Option.bind_some, am_b2, sx_len, xn_s, b1]
      rw [if_pos (nI_le hc (by omega)), List.drop_eq_nil_of_le hc]
      rfl
    · have hk' : k < B.length := by omega
      have hle := sl_get_le hk'
      have h4 := w3 k hk'
      rw [hlen k hk']
      simp (disch := first | omega | (simp only [List.length_cons, List.length_nil] <;> omega)) only [sx_ck, xk_s, sx_gI, sx_gA, xg_s, xi_s, xa_s, List.getElem?_cons_zero, List.getElem?_cons_succ, sx_lI, sx_lA, xl_s, xl_v, sx_pI, sx_pA, xp_s, List.set_cons_zero, List.set_cons_succ, sx_sI, sx_sB, sx_sZ, sx_sS, xs_s, sx_cp, xc_s, put_at, put_ne, new_at, new_ne, Option.bind_some, am_b2, sx_len, xn_s, b1, b3, w5]
      rw [if_neg (nI_ge (by omega) (by omega)), nI_1, ih (k + 1) (by omega) (by omega), List.drop_eq_getElem_cons hk', List.findIdx?_cons]
      simp (disch := omega) only [nI_eq]
      have hmap : Option.map (fun x => k + x) (Option.map (fun i => i + 1) (List.findIdx? (fun e => decide (e = sli g st n)) (List.drop (k + 1) B))) = Option.map (fun x => k + 1 + x) (List.findIdx? (fun e => decide (e = sli g st n)) (List.drop (k + 1) B)) := by
        rw [Option.map_map]
        congr 1
        funext i
        simp
        omega
      by_cases hn : B[k].length = n
      · rw [if_pos hn, Rw_cb b2 hb (by omega) hs (by omega) hN (by omega)]
        have hle := cpl_le (sli by_ (sl (B.take k)) n) (sli g st n)
        have heq := cpl_eq (p := sli by_ (sl (B.take k)) n) (q := sli g st n) (by rw [sli_len, sli_len])
        have hr := flat_row w4 hk'
        rw [hn, Nat.zero_add] at hr
        rw [sli_len] at hle heq
        simp (disch := omega) only [Option.bind_some, nI_eq, heq]
        rw [hr]
        by_cases he : B[k] = sli g st n
        · rw [if_pos he, decide_eq_true he]; rfl
        · rw [if_neg he, decide_eq_false he]
          simp only [Bool.false_eq_true, if_false]
          rw [hmap]
      · have he : ¬ B[k] = sli g st n := fun z => hn (by rw [z, sli_len])
        rw [if_neg hn, decide_eq_false he]
        simp only [Bool.false_eq_true, if_false]
        rw [hmap]
theorem Bl_find (h : Bl σ o B) (hb : σ.2.2 b = some (cB N g)) (hs : st + n ≤ N) (hN : N < 2 ^ 31) (hF : 32768 < F) : f_Bl_find F σ o b (nI st) (nI n) = some (oI (bfnd B (sli g st n))) := by
  have hl := Bl_findLoop h hb hs hN hF F 0 (by omega)
  obtain ⟨by_, sta, ro, fl, lc, wt, ls, ll, lk, lh, lch, ⟨b1, b2, b3, -⟩, -, ⟨w1, w2, w3, w4, w5, -⟩, -⟩ := h
  unfold f_Bl_find
  rw [am_ck_of b1, ← nI_0, hl (by omega), List.drop_zero]
  unfold bfnd
  congr 2
  cases List.findIdx? (fun e => decide (e = sli g st n)) B <;> simp
end BW
