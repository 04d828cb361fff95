/-! ===== L3: the reference: sorting LINES by kind, SCORE ===== -/
theorem tlnL (ts : Nat → List Int32) : ∀ j, (tln (ts j)).length ≤ 200 := fun j => by rw [tln_len]; exact lcn_le _
section SO
variable {g : Gh} {F n : Nat} {ts : Nat → List Int32} {th bm gv gm cm fm : Int32}
theorem fdL_drop {X : List Ln} {q : Ln} {k : Nat} (hk : k < X.length) : (fdL (X.drop k) q).map (k + ·) = if X[k] = q then some k else (fdL (X.drop (k + 1)) q).map (k + 1 + ·) := by
  unfold fdL
  rw [List.drop_eq_getElem_cons hk, List.findIdx?_cons]
  by_cases c : X[k] = q
  · simp [c]
  · simp only [c, decide_false, Bool.false_eq_true, if_false]
    rw [Option.map_map]
    congr 1
    funext x
    simp only [Function.comp]
    omega
theorem Md_s39 {σ : am_S} (hc : Ce g σ 95 (MDC th bm gv gm cm fm)) (h : LST g σ n ts) (hn : n ≤ 3) {j k a : Nat} (hj : j < n) (hk : k < (tln (ts j)).length) (ha : a < n) {kk : Int32 → am_S → Option am_S} (hF : 131072 < F) : ∀ (m i : Nat), i ≤ (tln (ts a)).length → (tln (ts a)).length - i < m →
    f_Md_sort_l39 F 95 (nI j) (nI k) (nI a) kk m (-1) (nI i) σ = kk (oI (((fdL ((tln (ts a)).drop i) (tln (ts j))[k]).map (i + ·)).map (a * 200 + ·))) σ := by
  have z := hc.1
  unfold MDC at z
  have a11 : am_gA σ 10 11 95 = some 138 := gA_of z rfl
  have hl := tlnL ts a
  intro m
  induction m with
  | zero => intro i _ hm; omega
  | succ m ih =>
    intro i hi hm
    rw [f_Md_sort_l39, a11, Option.bind_some, Md_cnt h hn ha, Option.bind_some]
    by_cases c : (tln (ts a)).length ≤ i
    · rw [if_pos (nI_le c (by omega)), List.drop_of_length_le c]
      rfl
    · have hi' : i < (tln (ts a)).length := by omega
      rw [if_neg (nI_ge hi' (by omega)), if_neg (by decide), Md_sameLine hc h hn hj hk ha hi' hF, Option.bind_some, fdL_drop hi']
      simp only [bo_0]
      by_cases e : (tln (ts j))[k] = (tln (ts a))[i]
      · rw [if_neg (by simp [e]), if_pos e.symm]
        have ec : nI a * 200 + nI i = nI (a * 200 + i) := by rw [nI_mulL, nI_add]
        rw [ec]
        obtain ⟨m', rfl⟩ : ∃ k, m = k + 1 := ⟨m - 1, by omega⟩
        rw [f_Md_sort_l39, a11, Option.bind_some, Md_cnt h hn ha, Option.bind_some, if_pos (nI_pos' (n := a * 200 + i) (by omega))]
        have : oI ((some i).map (a * 200 + ·)) = nI (a * 200 + i) := rfl
        rw [this]
        split <;> rfl
      · rw [if_pos (by simpa using e), if_neg (fun z => e z.symm), nI_1, ih (i + 1) (by omega) (by omega)]
theorem Md_s25 {σ : am_S} (hc : Ce g σ 95 (MDC th bm gv gm cm fm)) (h : LST g σ n ts) (hn : n ≤ 3) {j k : Nat} (hj : j < n) (hk : k < (tln (ts j)).length) {kk : Int32 → am_S → Option am_S} (hF : 131072 < F) : ∀ (m d a : Nat), a + d = n → d < m →
    f_Md_sort_l25 F 95 (nI n) (nI j) (nI k) kk m (-1) (nI a) σ = kk (oI (repF (fun x => tln (ts x)) (tln (ts j))[k] a d)) σ := by
  intro m
  induction m with
  | zero => intro d _ _ hm; omega
  | succ m ih =>
    intro d a had hm
    rw [f_Md_sort_l25]
    cases d with
    | zero =>
      rw [if_pos (nI_le (by omega) (by omega))]
      rfl
    | succ d =>
      have ha : a < n := by omega
      have hl := tlnL ts a
      rw [if_neg (nI_ge ha (by omega)), if_neg (by decide), ← nI_0, Md_s39 hc h hn hj hk ha hF F 0 (Nat.zero_le _) (by omega), List.drop_zero]
      unfold f_Md_sort_j86
      rw [repF]
      have e0 : (fdL (tln (ts a)) (tln (ts j))[k]).map (0 + ·) = fdL (tln (ts a)) (tln (ts j))[k] := by simp
      rw [e0, nI_1]
      cases hf : fdL (tln (ts a)) (tln (ts j))[k] with
      | none => exact ih d (a + 1) (by omega) (by omega)
      | some i =>
        obtain ⟨hi, -⟩ := fdL_some hf
        simp only [Option.map_some, oI_some]
        obtain ⟨m', rfl⟩ : ∃ k, m = k + 1 := ⟨m - 1, by omega⟩
        rw [f_Md_sort_l25, if_pos (nI_pos' (n := a * 200 + i) (by omega))]
        split <;> rfl
theorem Md_s9 {j : Nat} (hn : n ≤ 3) (hj : j < n) {kk : am_S → Option am_S} (hF : 131072 < F) : ∀ (m k : Nat) (σ : am_S) (kd : Nat → Int32), Ce g σ 95 (MDC th bm gv gm cm fm) → LST g σ n ts → Ce g σ 137 (cI 600 kd) → (∀ j' k' (_ : j' < n) (hk' : k' < (tln (ts j')).length), (j' < j ∨ j' = j ∧ k' < k) → kd (j' * 200 + k') = nI (rpN (fun x => tln (ts x)) n (tln (ts j'))[k'])) → k ≤ (tln (ts j)).length → (tln (ts j)).length - k < m →
    ∃ σ' kd', f_Md_sort_l9 F 95 (nI n) (nI j) kk m (nI k) σ = kk σ' ∧ Ce g σ' 137 (cI 600 kd') ∧ (∀ j' k' (_ : j' < n) (hk' : k' < (tln (ts j')).length), (j' < j + 1) → kd' (j' * 200 + k') = nI (rpN (fun x => tln (ts x)) n (tln (ts j'))[k'])) ∧ Fo (fun a => a = 137) g σ g σ' := by
  have hl := tlnL ts
  intro m
  induction m with
  | zero => intro k _ _ _ _ _ _ _ hm; omega
  | succ m ih =>
    intro k σ kd hc h h3 h4 h5 h6
    have z := hc.1
    unfold MDC at z
    have a11 : am_gA σ 10 11 95 = some 138 := gA_of z rfl
    have hlj := hl j
    rw [f_Md_sort_l9, a11, Option.bind_some, Md_cnt h hn hj, Option.bind_some]
    by_cases c : (tln (ts j)).length ≤ k
    · rw [if_pos (nI_le c (by omega))]
      exact ⟨σ, kd, rfl, h3, fun j' k' hj' hk' hor => h4 j' k' hj' hk' (by
        by_cases e : j' = j
        · subst e; exact Or.inr ⟨rfl, by omega⟩
        · exact Or.inl (by omega)), Fo.refl _ _ _⟩
    · have hk : k < (tln (ts j)).length := by omega
      rw [if_neg (nI_ge hk (by omega)), ← nI_0, Md_s25 hc h hn hj hk hF F n 0 (by omega) (by omega)]
      obtain ⟨cc, hcc⟩ := repF_mem (X := fun x => tln (ts x)) (q := (tln (ts j))[k]) (n := n) (a := 0) (Nat.zero_le j) (by omega) (List.getElem_mem hk)
      have hr : oI (repF (fun x => tln (ts x)) (tln (ts j))[k] 0 n) = nI (rpN (fun x => tln (ts x)) n (tln (ts j))[k]) := by
        unfold rpN
        rw [hcc]
        rfl
      rw [hr]
      unfold f_Md_sort_j92
      have ec : nI j * 200 + nI k = nI (j * 200 + k) := by rw [nI_mulL, nI_add]
      have s1 := sI_of (v := nI (rpN (fun x => tln (ts x)) n (tln (ts j))[k])) h3.1 (by omega) (show j * 200 + k < 600 by omega) (by omega)
      rw [gA_of z (by rfl), Option.bind_some, ec, s1, Option.bind_some, nI_1]
      generalize hτ : am_put σ 137 (cI 600 (uf kd (j * 200 + k) (nI (rpN (fun x => tln (ts x)) n (tln (ts j))[k])))) = τ
      have w : Fo (fun a => a = 137) g σ g τ := hτ ▸ (Fo.refl _ _ _).put fun _ => h3.2.1
      obtain ⟨σ', kd', q1, q2, q3, q4⟩ := ih (k + 1) τ _ (hc.fo w (by omega)) (h.fo w fun a _ _ => by omega) ⟨at_top hτ, h3.2.1, by rw [← hτ]; exact h3.2.2⟩ (fun j' k' hj' hk' hor => by
        have hl' := hl j'
        by_cases e : j' = j ∧ k' = k
        · obtain ⟨rfl, rfl⟩ := e
          rw [uf_same]
        · rw [uf_ne (by omega)]
          exact h4 j' k' hj' hk' (by omega)) (by omega) (by omega)
      exact ⟨σ', kd', q1, q2, q3, w.trans q4⟩
theorem Md_sort {σ : am_S} {kd : Nat → Int32} (hn : n ≤ 3) (hc : Ce g σ 95 (MDC th bm gv gm cm fm)) (h : LST g σ n ts) (h3 : Ce g σ 137 (cI 600 kd)) (hF : 131072 < F) : ∃ σ', f_Md_sort F σ 95 (nI n) = some σ' ∧ KND g σ' n (fun x => tln (ts x)) ∧ Fo (fun a => a = 137) g σ g σ' := by
  have z := hc.1
  unfold MDC at z
  have loop : ∀ (m j : Nat) (σ : am_S) (kd : Nat → Int32), Ce g σ 95 (MDC th bm gv gm cm fm) → LST g σ n ts → Ce g σ 137 (cI 600 kd) → (∀ j' k' (_ : j' < n) (hk' : k' < (tln (ts j')).length), j' < j → kd (j' * 200 + k') = nI (rpN (fun x => tln (ts x)) n (tln (ts j'))[k'])) → j ≤ n → n - j < m → ∃ σ', f_Md_sort_l2 F 95 (nI n) m (nI j) σ = some σ' ∧ KND g σ' n (fun x => tln (ts x)) ∧ Fo (fun a => a = 137) g σ g σ' := by
    intro m
    induction m with
    | zero => intro j _ _ _ _ _ _ _ hm; omega
    | succ m ih =>
      intro j σ kd hc h h3 h4 h5 h6
      rw [f_Md_sort_l2]
      by_cases c : n ≤ j
      · rw [if_pos (nI_le c (by omega))]
        exact ⟨σ, rfl, ⟨kd, h3, fun j' k' hj' hk' => h4 j' k' hj' hk' (by omega)⟩, Fo.refl _ _ _⟩
      · have hlj := tlnL ts j
        obtain ⟨σ1, kd1, q1, q2, q3, q4⟩ := Md_s9 (F := F) (g := g) (ts := ts) hn (show j < n by omega) (kk := fun τ => f_Md_sort_j112 F (nI j) (fun y2 τ => f_Md_sort_l2 F 95 (nI n) m y2 τ) τ) hF F 0 σ kd hc h h3 (fun j' k' hj' hk' hor => h4 j' k' hj' hk' (by omega)) (Nat.zero_le _) (by omega)
        obtain ⟨σ', p1, p2, p3⟩ := ih (j + 1) σ1 kd1 (hc.fo q4 (by omega)) (h.fo q4 fun a _ _ => by omega) q2 q3 (by omega) (by omega)
        rw [if_neg (nI_ge (by omega) (by omega)), ← nI_0, q1]
        unfold f_Md_sort_j112
        rw [nI_1]
        exact ⟨σ', p1, p2, q4.trans p3⟩
  obtain ⟨σ', q1, q2, q3⟩ := loop F 0 σ kd hc h h3 (fun j' k' _ _ hh => by omega) (by omega) (by omega)
  refine ⟨σ', ?_, q2, q3⟩
  unfold f_Md_sort
  rw [am_ck_of z, ← nI_0, q1]
theorem KND.at {σ : am_S} {X : Nat → List Ln} (hX : ∀ j, (X j).length ≤ 200) (h : KND g σ n X) (hn : n ≤ 3) {j k : Nat} (hj : j < n) (hk : k < (X j).length) : am_lI σ .int 137 (nI (j * 200 + k)) = some (nI (rpN X n (X j)[k])) := by
  obtain ⟨kd, h1, h2⟩ := h
  have := hX j
  rw [lI_of h1.1 (by omega) (by omega), h2 j k hj hk]
theorem KND.fo {T : Nat → Prop} {g1 : Gh} {σ σ1 : am_S} {X : Nat → List Ln} (h : KND g σ n X) (hf : Fo T g σ g1 σ1) (hT : ¬ T 137) : KND g1 σ1 n X := by
  obtain ⟨kd, h1, h2⟩ := h
  exact ⟨kd, h1.fo hf hT, h2⟩
theorem Md_many {σ : am_S} (hn : n ≤ 3) (hc : Ce g σ 95 (MDC th bm gv gm cm fm)) (h : LST g σ n ts) (hK : KND g σ n (fun x => tln (ts x))) {j j0 k0 : Nat} (hj : j < n) (hj0 : j0 < n) (hk0 : k0 < (tln (ts j0)).length) (hF : 131072 < F) : f_Md_many F σ 95 (nI j) (nI (rpN (fun x => tln (ts x)) n (tln (ts j0))[k0])) = some (nI ((tln (ts j)).count (tln (ts j0))[k0])) := by
  have z := hc.1
  unfold MDC at z
  have a11 : am_gA σ 10 11 95 = some 138 := gA_of z rfl
  have a10 : am_gA σ 10 10 95 = some 137 := gA_of z rfl
  have hl := tlnL ts j
  have loop : ∀ (m k c : Nat), k ≤ (tln (ts j)).length → (tln (ts j)).length - k < m → f_Md_many_l5 σ F 95 (nI j) (nI (rpN (fun x => tln (ts x)) n (tln (ts j0))[k0])) m (nI c) (nI k) = some (nI (c + ((tln (ts j)).drop k).count (tln (ts j0))[k0])) := by
    intro m
    induction m with
    | zero => intro k _ _ hm; omega
    | succ m ih =>
      intro k c hk hm
      rw [f_Md_many_l5, a11, Option.bind_some, Md_cnt h hn hj, Option.bind_some]
      by_cases cc : (tln (ts j)).length ≤ k
      · rw [if_pos (nI_le cc (by omega)), List.drop_of_length_le cc]
        rfl
      · have hk' : k < (tln (ts j)).length := by omega
        have ec : nI j * 200 + nI k = nI (j * 200 + k) := by rw [nI_mulL, nI_add]
        rw [if_neg (nI_ge hk' (by omega)), a10, Option.bind_some, ec, hK.at (tlnL ts) hn hj hk', Option.bind_some, List.drop_eq_getElem_cons hk', List.count_cons]
        simp only [rpN_eq (X := fun x => tln (ts x)) (tlnL ts) hn hj (List.getElem_mem hk') hj0 (List.getElem_mem hk0)]
        by_cases e : (tln (ts j))[k] = (tln (ts j0))[k0]
        · rw [if_pos e, nI_1, nI_1, ih (k + 1) (c + 1) (by omega) (by omega)]
          simp only [e, beq_self_eq_true, if_true]
          congr 2
          omega
        · rw [if_neg e, nI_1, ih (k + 1) c (by omega) (by omega)]
          simp [e]
  unfold f_Md_many
  rw [am_ck_of z, ← nI_0, loop F 0 0 (Nat.zero_le _) (by omega), List.drop_zero, Nat.zero_add]
theorem Md_blobText {σ : am_S} {B : List (List Int32)} {b : Option Nat} {j : Nat} (hc : Ce g σ 95 (MDC th bm gv gm cm fm)) (hB : BLK g σ B) (hT : TX3 g σ ts) (hj : j < 3) (hb : tOK B b) (hl : ∀ t ∈ B, t.length ≤ 4096) (hF : 131072 < F) : ∃ g' σ', f_Md_blobText F σ 95 (oI b) (130 + 2 * j) = some σ' ∧ TX3 g' σ' (fun i => if i = j then bT B b else ts i) ∧ Fo (fun a => a = 130 + 2 * j) g σ g' σ' := by
  have z := hc.1
  unfold MDC at z
  obtain ⟨b1, b2, bf, b3, b4⟩ := hB
  obtain ⟨σ1, c1, c2, c3⟩ := Ro_clear (F := F) (hT.2 j hj)
  have z1 := (hc.fo c3 (by omega)).1
  unfold MDC at z1
  have upd : ∀ (g' : Gh) (σ' : am_S) (t : List Int32), Ro g' σ' (130 + 2 * j) t → Fo (fun a => a = 130 + 2 * j) g σ g' σ' → TX3 g' σ' (fun i => if i = j then t else ts i) := by
    intro g' σ' t hR hf
    obtain ⟨⟨f, f1, f2⟩, f3⟩ := hT
    refine ⟨⟨f, f1.fo hf (by omega), f2⟩, fun i hi => ?_⟩
    by_cases e : i = j
    · subst e; simp only [if_true]; exact hR
    · simp only [if_neg e]; exact (f3 i hi).fo hf (by omega)
  unfold f_Md_blobText f_Md_blobText_j31
  rw [am_ck_of z, c1, Option.bind_some]
  cases b with
  | none =>
    rw [if_pos (show oI none < 0 by decide), if_pos (show (-1 : Int32) ≤ oI none by decide)]
    exact ⟨g, σ1, rfl, upd g σ1 [] c2 c3, c3⟩
  | some k =>
    have hk := hb k rfl
    have hle := sl_take_le B (k + 1)
    have hsu := sl_take_succ hk
    have hlk := hl _ (List.getElem_mem hk)
    obtain ⟨g2, σ2, d1, d2, d3⟩ := Ro_addb (F := F) (i := sl (B.take k)) (j := sl (B.take (k + 1))) c2 (b1.fo c3 (by omega)) (by omega) (by omega) (by rw [sl_flat]; exact hle) (by simp; omega) hF
    have e2 : (B.flatten.take (sl (B.take (k + 1)))).drop (sl (B.take k)) = B[k] := slB_flat hk
    rw [List.nil_append, e2] at d2
    have n3 := (b3.fo c3 (by omega)).1
    have hp : (-1 : Int32) ≤ nI k := by
      have h0 : (0 : Int32) ≤ nI k := nI_pos' (by omega)
      exact Int32.le_trans (by decide) h0
    rw [oI_some, if_neg (nI_pos (by omega)), gA_of z1 (by rfl), Option.bind_some, gA_of z1 (by rfl), Option.bind_some, lI_of n3 (by omega) (by omega), Option.bind_some, Option.bind_some, nI_1, lI_of n3 (by omega) (by omega), Option.bind_some, b4 k (by omega), b4 (k + 1) (by omega), d1]
    simp only [am_b2, Option.bind_some]
    rw [if_pos hp]
    have W := c3.trans d3
    refine ⟨g2, σ2, rfl, ?_, W⟩
    have := upd g2 σ2 B[k] d2 W
    rw [bT_some hk]
    exact this
end SO
