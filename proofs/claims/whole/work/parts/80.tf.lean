/-! ===== L3: TextMerger: pairs of LINES ===== -/
abbrev lnT (B : List (List Int32)) (t : Option Nat) : List Ln := tln (bT B t)
def tOK (B : List (List Int32)) (t : Option Nat) : Prop := ∀ k, t = some k → k < B.length
theorem oI_some (k : Nat) : oI (some k) = nI k := rfl
theorem oI_none : oI none = -1 := rfl
theorem tln_nil : tln [] = [] := by decide
theorem rgh_nil : rgh [] = false := by decide
section TF
variable {σ : am_S} {bl F : Nat} {B : List (List Int32)} {t : Option Nat}
theorem Bl_lineCountT (h : Bl σ bl B) (ht : tOK B t) : f_Bl_lineCount F σ bl (oI t) = some (nI (lnT B t).length) := by
  cases t with
  | none => rw [oI_none, Bl_lineCount' h]; simp [lnT, bT, tln_nil]; rfl
  | some k => rw [oI_some, Bl_lineCount h (ht k rfl), lnT, bT_some (ht k rfl), tln_len]
theorem Bl_isRoughT (h : Bl σ bl B) (ht : tOK B t) : f_Bl_isRough F σ bl (oI t) = some (bo (rgh (bT B t))) := by
  cases t with
  | none => rw [oI_none, Bl_isRough' h]; simp [bT, rgh_nil]; rfl
  | some k => rw [oI_some, Bl_isRough h (ht k rfl), bT_some (ht k rfl)]
theorem Bl_kindT (h : Bl σ bl B) (ht : tOK B t) {j : Nat} (hj : j < (lnT B t).length) : f_Bl_lineKind F σ bl (oI t) (nI j) = some (nI (ix (tls B) (lnT B t)[j])) := by
  cases t with
  | none => exact absurd hj (by simp [lnT, bT, tln_nil])
  | some k =>
    have hk := ht k rfl
    have e : lnT B (some k) = tln B[k] := by rw [lnT, bT_some hk]
    have hj' : j < (tln B[k]).length := by rw [← e]; exact hj
    rw [oI_some, Bl_kind h hk hj']
    simp only [e]
theorem lnT_mem (ht : tOK B t) {q : Ln} (hq : q ∈ lnT B t) : q ∈ tls B := by
  cases t with
  | none => simp [lnT, bT, tln_nil] at hq
  | some k =>
    have hk := ht k rfl
    rw [lnT, bT_some hk] at hq
    exact tls_mem hk hq
theorem ix_inj {p q : Ln} (hp : p ∈ tls B) (hq : q ∈ tls B) : (ix (tls B) p = ix (tls B) q) ↔ p = q := by
  constructor
  · intro h
    have h1 := ix_get (ix_mem.mpr hp)
    have h2 := ix_get (ix_mem.mpr hq)
    rw [← h1, ← h2]
    simp only [h]
  · rintro rfl; rfl
theorem lnT_len (t : Option Nat) : (lnT B t).length ≤ 200 := by rw [tln_len]; exact lcn_le _
theorem ixI_eq (hB : Bl σ bl B) {p q : Ln} (hp : p ∈ tls B) (hq : q ∈ tls B) : (nI (ix (tls B) p) = nI (ix (tls B) q)) ↔ p = q := by
  have h1 := ix_le (tls B) p
  have h2 := ix_le (tls B) q
  have h3 := tls_le hB
  rw [nI_eq (by omega) (by omega), ix_inj hp hq]
end TF
def TmC (σ : am_S) (o bl : Nat) (n cf tl : Int32) : Prop := σ.2.2 o = some (cO 7 [.ref bl, .ref (o + 5), .ref (o + 6), .ref (o + 7), .ref (o + 1), .ref (o + 2), .ref (o + 3), .ref (o + 4), .int n, .int cf, .int tl])
/-- the lengths behind (i, j) lie there -/
def LGI (X Y : List Ln) (lg : Nat → Int32) (i j : Nat) : Prop := ∀ i' j', i' ≤ X.length → j' ≤ Y.length → (i < i' ∨ i' = i ∧ j ≤ j') → lg (i' * 201 + j') = nI (lcN (X.drop i') (Y.drop j'))
section TG
variable {o bl F : Nat} {B : List (List Int32)} {t u : Option Nat} {n cf tl : Int32}
theorem Tm_f22 {r c : Nat} (h8 : 8 ≤ o) (hr : r ≤ 200) (hc : c ≤ 200) {kk : am_S → Option am_S} : ∀ (m j : Nat) (σ : am_S) (lg : Nat → Int32), TmC σ o bl n cf tl → σ.2.2 (o + 1) = some (cI 40401 lg) → (∀ j', j' < j → lg (r * 201 + j') = 0) → j ≤ c + 1 → c + 1 - j < m →
    ∃ σ' lg', f_Tm_fillLongest_l22 F o (nI r) (nI c) kk m (nI j) σ = kk σ' ∧ σ'.2.2 (o + 1) = some (cI 40401 lg') ∧ (∀ j', j' ≤ c → lg' (r * 201 + j') = 0) ∧ Fr (fun a => a = o + 1) σ σ' := by
  intro m
  induction m with
  | zero => intro j _ _ _ _ _ _ h; omega
  | succ m ih =>
    intro j σ lg h0 h1 h2 h3 h4
    rw [f_Tm_fillLongest_l22]
    by_cases hj : c < j
    · rw [if_pos (nI_lt hj (by omega))]
      exact ⟨σ, lg, rfl, h1, fun j' hj' => h2 j' (by omega), Fr.refl _ _⟩
    · rw [if_neg (nI_nlt (by omega) (by omega))]
      unfold TmC at h0
      simp (disch := first | omega | (simp only [List.length_cons, List.length_nil] <;> omega)) only [sx_ck, xk_s, sx_gI, sx_gA, xg_s, xi_s, xa_s, List.getElem?_cons_zero, List.getElem?_cons_succ, sx_lI, sx_lA, xl_s, xl_v, sx_pI, sx_pA, xp_s, List.set_cons_zero, List.set_cons_succ, sx_sI, sx_sB, sx_sZ, sx_sS, xs_s, sx_cp, xc_s, put_at, put_ne, new_at, new_ne, Option.bind_some, am_b2, sx_len, xn_s, h0, h1, nI_mulL, nI_add, nI_1]
      generalize hτ : am_put _ _ _ = τ
      have hf : Fr (fun a => a = o + 1) σ τ := hτ ▸ (Fr.refl _ _).p rfl
      obtain ⟨σ', lg', q1, q2, q3, q4⟩ := ih (j + 1) τ _ (hf.at (by omega) h0) (at_top hτ) (fun j' hj' => by
        by_cases e : j' = j
        · subst e; rw [uf_same]
        · rw [uf_ne (by omega)]; exact h2 j' (by omega)) (by omega) (by omega)
      exact ⟨σ', lg', q1, q2, q3, hf.trans q4⟩
theorem nI_m1 (j : Nat) : nI (j + 1) + (-1) = nI j := by
  have : nI (j + 1) - 1 = nI j := nI_pred j
  rw [← this, Int32.sub_eq_add_neg]
theorem nI_m1' (j : Nat) : nI (j + 1) - 1 = nI j := nI_pred j
theorem nI_z1 : nI 0 + (-1) < 0 := by decide
theorem Tm_f96 (h8 : 8 ≤ bl) (hb : bl + 13 ≤ o) (ht : tOK B t) (hu : tOK B u) {i : Nat} (hi : i < (lnT B t).length) {kk : am_S → Option am_S} : ∀ (m j : Nat) (σ : am_S) (lg : Nat → Int32), Bl σ bl B → TmC σ o bl n cf tl → σ.2.2 (o + 1) = some (cI 40401 lg) → LGI (lnT B t) (lnT B u) lg i j → j ≤ (lnT B u).length → j < m →
    ∃ σ' lg', f_Tm_fillLongest_l96 F o (oI u) (nI (i * 201)) (nI (ix (tls B) (lnT B t)[i])) kk m (nI j + (-1)) σ = kk σ' ∧ σ'.2.2 (o + 1) = some (cI 40401 lg') ∧ LGI (lnT B t) (lnT B u) lg' i 0 ∧ Fr (fun a => a = o + 1) σ σ' := by
  have hlt := lnT_len (B := B) t
  have hlu := lnT_len (B := B) u
  intro m
  induction m with
  | zero => intro j _ _ _ _ _ _ _ h; omega
  | succ m ih =>
    intro j σ lg hB h0 h1 h2 h3 h4
    rw [f_Tm_fillLongest_l96]
    cases j with
    | zero =>
      rw [if_pos nI_z1]
      exact ⟨σ, lg, rfl, h1, h2, Fr.refl _ _⟩
    | succ j =>
      rw [nI_m1, if_neg (nI_pos (by omega))]
      have hj : j < (lnT B u).length := by omega
      have hk := Bl_kindT (F := F) hB hu hj
      have hx := ixI_eq hB (lnT_mem ht (List.getElem_mem hi)) (lnT_mem hu (List.getElem_mem hj))
      have d1 : (lnT B t).drop i = (lnT B t)[i] :: (lnT B t).drop (i + 1) := List.drop_eq_getElem_cons hi
      have d2 : (lnT B u).drop j = (lnT B u)[j] :: (lnT B u).drop (j + 1) := List.drop_eq_getElem_cons hj
      have v1 := h2 (i + 1) (j + 1) (by omega) (by omega) (by omega)
      have v2 := h2 (i + 1) j (by omega) (by omega) (by omega)
      have v3 := h2 i (j + 1) (by omega) (by omega) (by omega)
      have b1 := lcN_le _ ((lnT B t).drop (i + 1)) ((lnT B u).drop j) (Nat.le_refl _)
      have b2 := lcN_le _ ((lnT B t).drop i) ((lnT B u).drop (j + 1)) (Nat.le_refl _)
      rw [List.length_drop] at b1 b2
      have a1 : nI (i * 201) + 201 + nI j + 1 = nI ((i + 1) * 201 + (j + 1)) := by
        rw [nI_addL, nI_add, nI_1]
        congr 1
        show i * 201 + 201 + j + 1 = _
        omega
      have a2 : nI (i * 201) + 201 + nI j = nI ((i + 1) * 201 + j) := by
        rw [nI_addL, nI_add]
        congr 1
        show i * 201 + 201 + _ = _
        omega
      have a3 : nI (i * 201 + j) + 1 = nI (i * 201 + (j + 1)) := by
        rw [nI_1, Nat.add_assoc]
      have hne : ∀ i' j', i' ≤ (lnT B t).length → j' ≤ (lnT B u).length → (i < i' ∨ i' = i ∧ j + 1 ≤ j') → i' * 201 + j' ≠ i * 201 + j := fun i' j' _ _ _ => by omega
      have hput : ∀ (v : Int32), v = nI (lcN ((lnT B t).drop i) ((lnT B u).drop j)) → ∃ σ' lg', f_Tm_fillLongest_l96 F o (oI u) (nI (i * 201)) (nI (ix (tls B) (lnT B t)[i])) kk m (nI j + (-1)) (am_put σ (o + 1) (cI 40401 (uf lg (i * 201 + j) v))) = kk σ' ∧ σ'.2.2 (o + 1) = some (cI 40401 lg') ∧ LGI (lnT B t) (lnT B u) lg' i 0 ∧ Fr (fun a => a = o + 1) σ σ' := by
        intro v hv
        have hf : Fr (fun a => a = o + 1) σ (am_put σ (o + 1) (cI 40401 (uf lg (i * 201 + j) v))) := (Fr.refl _ _).p rfl
        obtain ⟨σ', lg', q1, q2, q3, q4⟩ := ih j _ (uf lg (i * 201 + j) v) (hB.fr hf fun a _ _ => by omega) (hf.at (by omega) h0) (put_at _ _ _) (fun i' j' hi' hj' hor => by
          by_cases e : i' = i ∧ j' = j
          · rw [e.1, e.2, uf_same, hv]
          · rw [uf_ne (by omega)]
            exact h2 i' j' hi' hj' (by omega)) (by omega) (by omega)
        exact ⟨σ', lg', q1, q2, q3, hf.trans q4⟩
      unfold TmC at h0
      simp (disch := first | omega | (simp only [List.length_cons, List.length_nil] <;> omega)) only [sx_ck, xk_s, sx_gI, sx_gA, xg_s, xi_s, xa_s, List.getElem?_cons_zero, List.getElem?_cons_succ, sx_lI, sx_lA, xl_s, xl_v, sx_pI, sx_pA, xp_s, List.set_cons_zero, List.set_cons_succ, sx_sI, sx_sB, sx_sZ, sx_sS, xs_s, sx_cp, xc_s, put_at, put_ne, new_at, new_ne, Option.bind_some, am_b2, sx_len, xn_s, h0, hk]
      simp only [hx]
      by_cases he : (lnT B t)[i] = (lnT B u)[j]
      · rw [if_pos he]
        simp (disch := first | omega | (simp only [List.length_cons, List.length_nil] <;> omega)) only [sx_ck, xk_s, sx_gI, sx_gA, xg_s, xi_s, xa_s, List.getElem?_cons_zero, List.getElem?_cons_succ, sx_lI, sx_lA, xl_s, xl_v, sx_pI, sx_pA, xp_s, List.set_cons_zero, List.set_cons_succ, sx_sI, sx_sB, sx_sZ, sx_sS, xs_s, sx_cp, xc_s, put_at, put_ne, new_at, new_ne, Option.bind_some, am_b2, sx_len, xn_s, h1, a1, nI_add, v1, nI_1]
        exact hput _ (by rw [d1, d2, lcN_c, if_pos he])
      · rw [if_neg he]
        simp (disch := first | omega | (simp only [List.length_cons, List.length_nil] <;> omega)) only [sx_ck, xk_s, sx_gI, sx_gA, xg_s, xi_s, xa_s, List.getElem?_cons_zero, List.getElem?_cons_succ, sx_lI, sx_lA, xl_s, xl_v, sx_pI, sx_pA, xp_s, List.set_cons_zero, List.set_cons_succ, sx_sI, sx_sB, sx_sZ, sx_sS, xs_s, sx_cp, xc_s, put_at, put_ne, new_at, new_ne, Option.bind_some, am_b2, sx_len, xn_s, h1, a2, a3, nI_add, v2, v3]
        rw [max_nI (by omega) (by omega)]
        exact hput _ (by rw [d1, d2, lcN_c, if_neg he])
theorem Tm_f54 (h8 : 8 ≤ bl) (hb : bl + 13 ≤ o) (ht : tOK B t) (hu : tOK B u) (hF : 512 < F) : ∀ (m i : Nat) (σ : am_S) (lg : Nat → Int32), Bl σ bl B → TmC σ o bl n cf tl → σ.2.2 (o + 1) = some (cI 40401 lg) → LGI (lnT B t) (lnT B u) lg i 0 → i ≤ (lnT B t).length → i < m →
    ∃ σ' lg', f_Tm_fillLongest_l54 F o (oI t) (oI u) (nI (lnT B u).length) m (nI i + (-1)) σ = some σ' ∧ σ'.2.2 (o + 1) = some (cI 40401 lg') ∧ LGI (lnT B t) (lnT B u) lg' 0 0 ∧ Fr (fun a => a = o + 1) σ σ' := by
  have hlt := lnT_len (B := B) t
  have hlu := lnT_len (B := B) u
  intro m
  induction m with
  | zero => intro i _ _ _ _ _ _ _ h; omega
  | succ m ih =>
    intro i σ lg hB h0 h1 h2 h3 h4
    rw [f_Tm_fillLongest_l54]
    cases i with
    | zero =>
      rw [if_pos nI_z1]
      exact ⟨σ, lg, rfl, h1, h2, Fr.refl _ _⟩
    | succ i =>
      rw [nI_m1, if_neg (nI_pos (by omega))]
      have hi : i < (lnT B t).length := by omega
      have hk := Bl_kindT (F := F) hB ht hi
      unfold TmC at h0
      simp (disch := first | omega | (simp only [List.length_cons, List.length_nil] <;> omega)) only [sx_ck, xk_s, sx_gI, sx_gA, xg_s, xi_s, xa_s, List.getElem?_cons_zero, List.getElem?_cons_succ, sx_lI, sx_lA, xl_s, xl_v, sx_pI, sx_pA, xp_s, List.set_cons_zero, List.set_cons_succ, sx_sI, sx_sB, sx_sZ, sx_sS, xs_s, sx_cp, xc_s, put_at, put_ne, new_at, new_ne, Option.bind_some, am_b2, sx_len, xn_s, h0, h1, hk, nI_mulL, nI_add]
      generalize hτ : am_put _ _ _ = τ
      have hf : Fr (fun a => a = o + 1) σ τ := hτ ▸ (Fr.refl _ _).p rfl
      have hB1 := hB.fr hf fun a _ _ => by omega
      have e1 : nI (lnT B u).length - 1 = nI (lnT B u).length + (-1) := Int32.sub_eq_add_neg _ _
      rw [e1]
      obtain ⟨σ1, lg1, q1, q2, q3, q4⟩ := Tm_f96 (F := F) (n := n) (cf := cf) (tl := tl) h8 hb ht hu hi (kk := fun τ => f_Tm_fillLongest_j192 F (nI i) (fun y5 τ => f_Tm_fillLongest_l54 F o (oI t) (oI u) (nI (lnT B u).length) m y5 τ) τ) F (lnT B u).length τ _ hB1 (hf.at (by omega) h0) (at_top hτ) (fun i' j' hi' hj' hor => by
        by_cases e : i' = i ∧ j' = (lnT B u).length
        · rw [e.1, e.2, uf_same, List.drop_length, lcN_nr]
          rfl
        · rw [uf_ne (by omega)]
          exact h2 i' j' hi' hj' (by omega)) (Nat.le_refl _) (by omega)
      obtain ⟨σ', lg', p1, p2, p3, p4⟩ := ih i σ1 lg1 (hB1.fr q4 fun a _ _ => by omega) (q4.at (by omega) (hf.at (by omega) h0)) q2 q3 (by omega) (by omega)
      refine ⟨σ', lg', ?_, p2, p3, hf.trans (q4.trans p4)⟩
      rw [← p1]
      exact q1
theorem Tm_fill {σ : am_S} {lg : Nat → Int32} (h8 : 8 ≤ bl) (hb : bl + 13 ≤ o) (ht : tOK B t) (hu : tOK B u) (hF : 512 < F) (hB : Bl σ bl B) (h0 : TmC σ o bl n cf tl) (h1 : σ.2.2 (o + 1) = some (cI 40401 lg)) :
    ∃ σ' lg', f_Tm_fillLongest F σ o (oI t) (oI u) = some σ' ∧ σ'.2.2 (o + 1) = some (cI 40401 lg') ∧ LGI (lnT B t) (lnT B u) lg' 0 0 ∧ Fr (fun a => a = o + 1) σ σ' := by
  have hlt := lnT_len (B := B) t
  have hlu := lnT_len (B := B) u
  have c1 := Bl_lineCountT (F := F) hB ht
  have c2 := Bl_lineCountT (F := F) hB hu
  obtain ⟨σ1, lg1, q1, q2, q3, q4⟩ := Tm_f22 (F := F) (r := (lnT B t).length) (c := (lnT B u).length) (by omega) hlt hlu (kk := fun τ => f_Tm_fillLongest_j49 F o (oI t) (oI u) (nI (lnT B t).length) (nI (lnT B u).length) τ) F 0 σ lg h0 h1 (fun _ h => by omega) (by omega) (by omega)
  obtain ⟨σ', lg', p1, p2, p3, p4⟩ := Tm_f54 (F := F) h8 hb ht hu hF F (lnT B t).length σ1 lg1 (hB.fr q4 fun a _ _ => by omega) (q4.at (by omega) h0) q2 (fun i' j' hi' hj' hor => by
    have e : i' = (lnT B t).length := by omega
    rw [e, q3 j' hj', List.drop_length, lcN_nl]
    rfl) (Nat.le_refl _) (by omega)
  refine ⟨σ', lg', ?_, p2, p3, q4.trans p4⟩
  unfold TmC at h0
  unfold f_Tm_fillLongest
  simp (disch := first | omega | (simp only [List.length_cons, List.length_nil] <;> omega)) only [sx_ck, xk_s, sx_gI, sx_gA, xg_s, xi_s, xa_s, List.getElem?_cons_zero, List.getElem?_cons_succ, sx_lI, sx_lA, xl_s, xl_v, sx_pI, sx_pA, xp_s, List.set_cons_zero, List.set_cons_succ, sx_sI, sx_sB, sx_sZ, sx_sS, xs_s, sx_cp, xc_s, put_at, put_ne, new_at, new_ne, Option.bind_some, am_b2, sx_len, xn_s, h0, c1, c2]
  rw [← nI_0, q1]
  unfold f_Tm_fillLongest_j49
  rw [Int32.sub_eq_add_neg]
  exact p1
theorem Tm_p29 {a r : Nat} (h8 : 8 ≤ a) (hr : r ≤ 200) {kk : am_S → Option am_S} : ∀ (m j : Nat) (σ : am_S) (p : Nat → Int32), σ.2.2 a = some (cI 200 p) → (∀ k, k < j → p k = -1) → j ≤ r → r - j < m →
    ∃ σ' p', f_Tm_pairLines_l29 F a (nI r) kk m (nI j) σ = kk σ' ∧ σ'.2.2 a = some (cI 200 p') ∧ (∀ k, k < r → p' k = -1) ∧ Fr (fun b => b = a) σ σ' := by
  intro m
  induction m with
  | zero => intro j _ _ _ _ _ h; omega
  | succ m ih =>
    intro j σ p h1 h2 h3 h4
    rw [f_Tm_pairLines_l29]
    by_cases hj : r ≤ j
    · rw [if_pos (nI_le hj (by omega))]
      exact ⟨σ, p, rfl, h1, fun k hk => h2 k (by omega), Fr.refl _ _⟩
    · rw [if_neg (nI_ge (by omega) (by omega))]
      simp (disch := first | omega | (simp only [List.length_cons, List.length_nil] <;> omega)) only [sx_ck, xk_s, sx_gI, sx_gA, xg_s, xi_s, xa_s, List.getElem?_cons_zero, List.getElem?_cons_succ, sx_lI, sx_lA, xl_s, xl_v, sx_pI, sx_pA, xp_s, List.set_cons_zero, List.set_cons_succ, sx_sI, sx_sB, sx_sZ, sx_sS, xs_s, sx_cp, xc_s, put_at, put_ne, new_at, new_ne, Option.bind_some, am_b2, sx_len, xn_s, h1, nI_1]
      generalize hτ : am_put _ _ _ = τ
      have hf : Fr (fun b => b = a) σ τ := hτ ▸ (Fr.refl _ _).p rfl
      obtain ⟨σ', p', q1, q2, q3, q4⟩ := ih (j + 1) τ _ (at_top hτ) (fun k hk => by
        by_cases e : k = j
        · subst e; rw [uf_same]
        · rw [uf_ne e]; exact h2 k (by omega)) (by omega) (by omega)
      exact ⟨σ', p', q1, q2, q3, hf.trans q4⟩
theorem getD_drop {l r : List (Option Nat)} {i k : Nat} (h : l.drop i = r) : l.getD (i + k) none = r.getD k none := by
  rw [List.getD_eq_getElem?_getD, List.getD_eq_getElem?_getD, ← h, List.getElem?_drop]
theorem Tm_p53 {a : Nat} {lg : Nat → Int32} (h8 : 8 ≤ bl) (hb : bl + 13 ≤ o) (ha : a = o + 2 ∨ a = o + 3) (ht : tOK B t) (hu : tOK B u) (hL : LGI (lnT B t) (lnT B u) lg 0 0) : ∀ (m i j : Nat) (σ : am_S) (p : Nat → Int32), Bl σ bl B → TmC σ o bl n cf tl → σ.2.2 (o + 1) = some (cI 40401 lg) → σ.2.2 a = some (cI 200 p) →
    (∀ k, k < i → p k = oI ((prL (lnT B t) (lnT B u) 0).getD k none)) → (∀ k, i ≤ k → k < (lnT B t).length → p k = -1) → (prL (lnT B t) (lnT B u) 0).drop i = prL ((lnT B t).drop i) ((lnT B u).drop j) j → i ≤ (lnT B t).length → j ≤ (lnT B u).length → ((lnT B t).length - i) + ((lnT B u).length - j) < m →
    ∃ σ' p', f_Tm_pairLines_l53 F o (oI t) (oI u) a (nI (lnT B t).length) (nI (lnT B u).length) m (nI i) (nI j) σ = some σ' ∧ σ'.2.2 a = some (cI 200 p') ∧ (∀ k, k < (lnT B t).length → p' k = oI ((prL (lnT B t) (lnT B u) 0).getD k none)) ∧ Fr (fun b => b = a) σ σ' := by
  have hlt := lnT_len (B := B) t
  have hlu := lnT_len (B := B) u
  intro m
  induction m with
  | zero => intro i j _ _ _ _ _ _ _ _ _ _ _ h; omega
  | succ m ih =>
    intro i j σ p hB h0 h1 h2 hp1 hp2 hd hi hj hm
    rw [f_Tm_pairLines_l53]
    by_cases ci : (lnT B t).length ≤ i
    · rw [if_pos (nI_le ci (by omega))]
      exact ⟨σ, p, rfl, h2, fun k hk => hp1 k (by omega), Fr.refl _ _⟩
    · rw [if_neg (nI_ge (by omega) (by omega))]
      by_cases cj : (lnT B u).length ≤ j
      · rw [if_pos (nI_le cj (by omega))]
        refine ⟨σ, p, rfl, h2, fun k hk => ?_, Fr.refl _ _⟩
        by_cases hki : k < i
        · exact hp1 k hki
        · rw [hp2 k (by omega) hk]
          rw [List.drop_eq_nil_of_le (as := lnT B u) cj, prL_nr] at hd
          have := getD_drop (k := k - i) hd
          rw [show i + (k - i) = k by omega] at this
          rw [this]
          have e0 : (List.replicate (List.drop i (lnT B t)).length (none : Option Nat)).getD (k - i) none = none := by
            rw [List.getD_eq_getElem?_getD, List.getElem?_replicate]
            split <;> rfl
          rw [e0]; rfl
      · rw [if_neg (nI_ge (by omega) (by omega))]
        have hi' : i < (lnT B t).length := by omega
        have hj' : j < (lnT B u).length := by omega
        have k1 := Bl_kindT (F := F) hB ht hi'
        have k2 := Bl_kindT (F := F) hB hu hj'
        have hx := ixI_eq hB (lnT_mem ht (List.getElem_mem hi')) (lnT_mem hu (List.getElem_mem hj'))
        have d1 : (lnT B t).drop i = (lnT B t)[i] :: (lnT B t).drop (i + 1) := List.drop_eq_getElem_cons hi'
        have d2 : (lnT B u).drop j = (lnT B u)[j] :: (lnT B u).drop (j + 1) := List.drop_eq_getElem_cons hj'
        have hpl : (prL (lnT B t) (lnT B u) 0).length = (lnT B t).length := (prL_ok _ _ _ _ (Nat.le_refl _)).1
        have d3 : (prL (lnT B t) (lnT B u) 0).drop i = (prL (lnT B t) (lnT B u) 0)[i] :: (prL (lnT B t) (lnT B u) 0).drop (i + 1) := List.drop_eq_getElem_cons (by omega)
        have d4 : (prL (lnT B t) (lnT B u) 0).getD i none = (prL (lnT B t) (lnT B u) 0)[i] := by simp [hpl, hi']
        have v2 := hL (i + 1) j (by omega) (by omega) (by omega)
        have v3 := hL i (j + 1) (by omega) (by omega) (by omega)
        have b1 := lcN_le _ ((lnT B t).drop (i + 1)) ((lnT B u).drop j) (Nat.le_refl _)
        have b2 := lcN_le _ ((lnT B t).drop i) ((lnT B u).drop (j + 1)) (Nat.le_refl _)
        rw [List.length_drop] at b1 b2
        have a2 : (nI i + 1) * 201 + nI j = nI ((i + 1) * 201 + j) := by
          rw [nI_1, nI_mulL, nI_add]
        have a3 : nI i * 201 + nI j + 1 = nI (i * 201 + (j + 1)) := by
          rw [nI_mulL, nI_add, nI_1, Nat.add_assoc]
        have h0' := h0
        unfold TmC at h0
        rw [d1, d2, prL_c] at hd
        simp (disch := first | omega | (simp only [List.length_cons, List.length_nil] <;> omega)) only [sx_ck, xk_s, sx_gI, sx_gA, xg_s, xi_s, xa_s, List.getElem?_cons_zero, List.getElem?_cons_succ, sx_lI, sx_lA, xl_s, xl_v, sx_pI, sx_pA, xp_s, List.set_cons_zero, List.set_cons_succ, sx_sI, sx_sB, sx_sZ, sx_sS, xs_s, sx_cp, xc_s, put_at, put_ne, new_at, new_ne, Option.bind_some, am_b2, sx_len, xn_s, h0, k1, k2]
        simp only [hx]
        by_cases he : (lnT B t)[i] = (lnT B u)[j]
        · rw [if_pos he]
          rw [if_pos he, d3] at hd
          obtain ⟨e1, e2⟩ := List.cons.inj hd
          have h8a : 8 ≤ a := by omega
          simp (disch := first | omega | (simp only [List.length_cons, List.length_nil] <;> omega)) only [sx_ck, xk_s, sx_gI, sx_gA, xg_s, xi_s, xa_s, List.getElem?_cons_zero, List.getElem?_cons_succ, sx_lI, sx_lA, xl_s, xl_v, sx_pI, sx_pA, xp_s, List.set_cons_zero, List.set_cons_succ, sx_sI, sx_sB, sx_sZ, sx_sS, xs_s, sx_cp, xc_s, put_at, put_ne, new_at, new_ne, Option.bind_some, am_b2, sx_len, xn_s, h2, nI_1]
          generalize hτ : am_put _ _ _ = τ
          have hf : Fr (fun b => b = a) σ τ := hτ ▸ (Fr.refl _ _).p rfl
          obtain ⟨σ', p', q1, q2, q3, q4⟩ := ih (i + 1) (j + 1) τ _ (hB.fr hf fun a _ _ => by omega) (hf.at (by omega) h0) (hf.at (by omega) h1) (at_top hτ) (fun k hk => by
            by_cases e : k = i
            · subst e; rw [uf_same, d4, e1]; rfl
            · rw [uf_ne e]; exact hp1 k (by omega)) (fun k hk hk' => by rw [uf_ne (by omega)]; exact hp2 k (by omega) hk') e2 (by omega) (by omega) (by omega)
          exact ⟨σ', p', q1, q2, q3, hf.trans q4⟩
        · rw [if_neg he]
          rw [if_neg he] at hd
          rw [← d1, ← d2] at hd
          simp (disch := first | omega | (simp only [List.length_cons, List.length_nil] <;> omega)) only [sx_ck, xk_s, sx_gI, sx_gA, xg_s, xi_s, xa_s, List.getElem?_cons_zero, List.getElem?_cons_succ, sx_lI, sx_lA, xl_s, xl_v, sx_pI, sx_pA, xp_s, List.set_cons_zero, List.set_cons_succ, sx_sI, sx_sB, sx_sZ, sx_sS, xs_s, sx_cp, xc_s, put_at, put_ne, new_at, new_ne, Option.bind_some, am_b2, sx_len, xn_s, h1, a2, a3, v2, v3, nI_ltI]
          by_cases hlt' : lcN ((lnT B t).drop (i + 1)) ((lnT B u).drop j) < lcN ((lnT B t).drop i) ((lnT B u).drop (j + 1))
          · rw [if_pos hlt', nI_1]
            rw [if_pos hlt'] at hd
            exact ih i (j + 1) σ p hB h0' h1 h2 hp1 hp2 hd hi (by omega) (by omega)
          · rw [if_neg hlt', nI_1]
            rw [if_neg hlt', d3] at hd
            obtain ⟨e1, e2⟩ := List.cons.inj hd
            exact ih (i + 1) j σ p hB h0' h1 h2 (fun k hk => by
              by_cases e : k = i
              · subst e
                rw [hp2 k (Nat.le_refl _) hi', d4, e1]; rfl
              · exact hp1 k (by omega)) (fun k hk hk' => hp2 k (by omega) hk') e2 (by omega) hj (by omega)
theorem Tm_pair {σ : am_S} {a : Nat} {lg p : Nat → Int32} (h8 : 8 ≤ bl) (hb : bl + 13 ≤ o) (ha : a = o + 2 ∨ a = o + 3) (ht : tOK B t) (hu : tOK B u) (hF : 512 < F) (hB : Bl σ bl B) (h0 : TmC σ o bl n cf tl) (h1 : σ.2.2 (o + 1) = some (cI 40401 lg)) (h2 : σ.2.2 a = some (cI 200 p)) :
    ∃ σ' lg' p', f_Tm_pairLines F σ o (oI t) (oI u) a = some σ' ∧ σ'.2.2 (o + 1) = some (cI 40401 lg') ∧ σ'.2.2 a = some (cI 200 p') ∧ (∀ k, k < (lnT B t).length → p' k = oI ((prL (lnT B t) (lnT B u) 0).getD k none)) ∧ Fr (fun b => b = o + 1 ∨ b = a) σ σ' := by
  have hlt := lnT_len (B := B) t
  have hlu := lnT_len (B := B) u
  have c1 := Bl_lineCountT (F := F) hB ht
  have c2 := Bl_lineCountT (F := F) hB hu
  obtain ⟨σ1, lg1, q1, q2, q3, q4⟩ := Tm_fill (F := F) h8 hb ht hu hF hB h0 h1
  obtain ⟨σ2, p2, r1, r2, r3, r4⟩ := Tm_p29 (F := F) (a := a) (by omega) hlt (kk := fun τ => f_Tm_pairLines_j47 F o (oI t) (oI u) a (nI (lnT B t).length) (nI (lnT B u).length) τ) F 0 σ1 p (q4.at (by omega) h2) (fun _ h => by omega) (by omega) (by omega)
  have hB1 := hB.fr q4 fun a _ _ => by omega
  obtain ⟨σ3, p3, s1, s2, s3, s4⟩ := Tm_p53 (F := F) (n := n) (cf := cf) (tl := tl) h8 hb ha ht hu q3 F 0 0 σ2 p2 (hB1.fr r4 fun a _ _ => by omega) (r4.at (by omega) (q4.at (by omega) h0)) (r4.at (by omega) q2) r2 (fun _ h => by omega) (fun k _ hk => r3 k hk) rfl (by omega) (by omega) (by omega)
  refine ⟨σ3, lg1, p3, ?_, s4.at (by omega) (r4.at (by omega) q2), s2, s3, (q4.mono fun a ha => Or.inl ha).trans ((r4.mono fun a ha => Or.inr ha).trans (s4.mono fun a ha => Or.inr ha))⟩
  unfold TmC at h0
  unfold f_Tm_pairLines
  simp (disch := first | omega | (simp only [List.length_cons, List.length_nil] <;> omega)) only [sx_ck, xk_s, sx_gI, sx_gA, xg_s, xi_s, xa_s, List.getElem?_cons_zero, List.getElem?_cons_succ, sx_lI, sx_lA, xl_s, xl_v, sx_pI, sx_pA, xp_s, List.set_cons_zero, List.set_cons_succ, sx_sI, sx_sB, sx_sZ, sx_sS, xs_s, sx_cp, xc_s, put_at, put_ne, new_at, new_ne, Option.bind_some, am_b2, sx_len, xn_s, h0, c1, c2]
  rw [q1, Option.bind_some, ← nI_0, r1]
  exact s1
end TG
