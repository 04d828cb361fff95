/-! ===== L3: the reference: the longest common row; pairs of LINES ===== -/
theorem nI_lt1 {j b : Nat} (hj : j < 2 ^ 31) (hb : b < 2 ^ 31) : (nI j + (-1) < nI b) ↔ j ≤ b := by
  cases j with
  | zero =>
    constructor
    · intro _; omega
    · intro _
      have h1 : nI 0 + (-1) < 0 := nI_z1
      have h2 : (0 : Int32) ≤ nI b := nI_pos' hb
      exact Int32.lt_of_lt_of_le h1 h2
  | succ j =>
    rw [nI_m1]
    exact nI_ltI (by omega) hb
theorem nI_s1 (j : Nat) : nI j - 1 = nI j + (-1) := by rw [Int32.sub_eq_add_neg]
section CM
variable {g : Gh} {F x : Nat} {ts : Nat → List Int32} {th bm gv gm cm fm : Int32}
theorem KND.eq {σ : am_S} (hK : KND g σ 3 (fun x => tln (ts x))) (hx : x < 3) {i j : Nat} (hi : i < (tln (ts 0)).length) (hj : j < (tln (ts x)).length) : ∃ u v : Int32, am_lI σ .int 137 (nI i) = some u ∧ am_lI σ .int 137 (nI (x * 200 + j)) = some v ∧ ((u = v) ↔ (tln (ts 0))[i] = (tln (ts x))[j]) := by
  have h1 := hK.at (tlnL ts) (by omega) (j := 0) (k := i) (by omega) hi
  have h2 := hK.at (tlnL ts) (by omega) (j := x) (k := j) hx hj
  rw [Nat.zero_mul, Nat.zero_add] at h1
  exact ⟨_, _, h1, h2, rpN_eq (X := fun x => tln (ts x)) (tlnL ts) (by omega) (show 0 < 3 by omega) (List.getElem_mem hi) hx (List.getElem_mem hj)⟩
theorem Md_c3 (hx : x < 3) {kk : am_S → Option (Int32 × am_S)} : ∀ (m j : Nat) (σ : am_S) (be : Nat → Int32), Ce g σ 95 (MDC th bm gv gm cm fm) → LST g σ 3 ts → Ce g σ 141 (cI 202 be) → (∀ j', j' < j → be j' = 0) → j ≤ (tln (ts x)).length + 1 → (tln (ts x)).length + 1 - j < m →
    ∃ σ' be', f_Md_common_l3 F 95 (nI x) kk m (nI j) σ = kk σ' ∧ Ce g σ' 141 (cI 202 be') ∧ (∀ j', j' ≤ (tln (ts x)).length → be' j' = 0) ∧ Fo (fun a => a = 141) g σ g σ' := by
  have hl := tlnL ts x
  intro m
  induction m with
  | zero => intro j _ _ _ _ _ _ _ h; omega
  | succ m ih =>
    intro j σ be hc hL hb h1 h2 h3
    have z := hc.1
    unfold MDC at z
    rw [f_Md_common_l3, gA_of z (k := 11) rfl, Option.bind_some, Md_cnt hL (by omega) hx, Option.bind_some]
    simp only [nI_ltI (show (tln (ts x)).length < 2 ^ 31 by omega) (show j < 2 ^ 31 by omega)]
    by_cases c : (tln (ts x)).length < j
    · rw [if_pos c]
      exact ⟨σ, be, rfl, hb, fun j' hj' => h1 j' (by omega), Fo.refl _ _ _⟩
    · rw [if_neg c, gA_of z (k := 14) rfl, Option.bind_some]
      obtain ⟨σ1, q1, q2, q3⟩ := hb.si (v := 0) (by omega) (show j < 202 by omega) (by omega)
      rw [q1, Option.bind_some, nI_1]
      obtain ⟨σ', be', r1, r2, r3, r4⟩ := ih (j + 1) σ1 _ (hc.fo q3 (by omega)) (hL.fo q3 fun a _ _ => by omega) q2 (fun j' hj' => by
        by_cases e : j' = j
        · subst e; exact uf_same _ _ _
        · rw [uf_ne e]; exact h1 j' (by omega)) (by omega) (by omega)
      exact ⟨σ', be', r1, r2, r3, q3.trans r4⟩
theorem Md_c47 (hx : x < 3) {kk : am_S → Option (Int32 × am_S)} {be : Nat → Int32} : ∀ (m j : Nat) (σ : am_S) (ab : Nat → Int32), Ce g σ 95 (MDC th bm gv gm cm fm) → LST g σ 3 ts → Ce g σ 140 (cI 202 ab) → Ce g σ 141 (cI 202 be) → (∀ j', j' < j → ab j' = be j') → j ≤ (tln (ts x)).length + 1 → (tln (ts x)).length + 1 - j < m →
    ∃ σ' ab', f_Md_common_l47 F 95 (nI x) kk m (nI j) σ = kk σ' ∧ Ce g σ' 140 (cI 202 ab') ∧ (∀ j', j' ≤ (tln (ts x)).length → ab' j' = be j') ∧ Fo (fun a => a = 140) g σ g σ' := by
  have hl := tlnL ts x
  intro m
  induction m with
  | zero => intro j _ _ _ _ _ _ _ _ h; omega
  | succ m ih =>
    intro j σ ab hc hL ha hb h1 h2 h3
    have z := hc.1
    unfold MDC at z
    rw [f_Md_common_l47, gA_of z (k := 11) rfl, Option.bind_some, Md_cnt hL (by omega) hx, Option.bind_some]
    simp only [nI_ltI (show (tln (ts x)).length < 2 ^ 31 by omega) (show j < 2 ^ 31 by omega)]
    by_cases c : (tln (ts x)).length < j
    · rw [if_pos c]
      exact ⟨σ, ab, rfl, ha, fun j' hj' => h1 j' (by omega), Fo.refl _ _ _⟩
    · obtain ⟨σ1, q1, q2, q3⟩ := ha.si (v := be j) (by omega) (show j < 202 by omega) (by omega)
      rw [if_neg c, gA_of z (k := 13) rfl, Option.bind_some, gA_of z (k := 14) rfl, Option.bind_some, lI_of hb.1 (by omega) (by omega), Option.bind_some, q1, Option.bind_some, nI_1]
      obtain ⟨σ', ab', r1, r2, r3, r4⟩ := ih (j + 1) σ1 _ (hc.fo q3 (by omega)) (hL.fo q3 fun a _ _ => by omega) q2 (hb.fo q3 (by omega)) (fun j' hj' => by
        by_cases e : j' = j
        · subst e; exact uf_same _ _ _
        · rw [uf_ne e]; exact h1 j' (by omega)) (by omega) (by omega)
      exact ⟨σ', ab', r1, r2, r3, q3.trans r4⟩
theorem Md_c88 {i b : Nat} (hx : x < 3) (hi : i < (tln (ts 0)).length) {kk : am_S → Option (Int32 × am_S)} {ab : Nat → Int32} (hab : ∀ j', b ≤ j' → j' ≤ (tln (ts x)).length → ab j' = nI (lcN ((tln (ts 0)).drop (i + 1)) ((tln (ts x)).drop j'))) : ∀ (m j : Nat) (σ : am_S) (be : Nat → Int32), Ce g σ 95 (MDC th bm gv gm cm fm) → LST g σ 3 ts → KND g σ 3 (fun x => tln (ts x)) → Ce g σ 140 (cI 202 ab) → Ce g σ 141 (cI 202 be) → (∀ j', j ≤ j' → j' ≤ (tln (ts x)).length → be j' = nI (lcN ((tln (ts 0)).drop i) ((tln (ts x)).drop j'))) → b ≤ j → j ≤ (tln (ts x)).length → j - b < m →
    ∃ σ' be', f_Md_common_l88 F 95 0 (nI x) (nI b) (nI i) kk m (nI j + (-1)) σ = kk σ' ∧ Ce g σ' 141 (cI 202 be') ∧ (∀ j', b ≤ j' → j' ≤ (tln (ts x)).length → be' j' = nI (lcN ((tln (ts 0)).drop i) ((tln (ts x)).drop j'))) ∧ Fo (fun a => a = 141) g σ g σ' := by
  have hl := tlnL ts x
  have hl0 := tlnL ts 0
  intro m
  induction m with
  | zero => intro j _ _ _ _ _ _ _ _ _ _ h; omega
  | succ m ih =>
    intro j σ be hc hL hK ha hb h1 h2 h3 h4
    have z := hc.1
    unfold MDC at z
    rw [f_Md_common_l88]
    simp only [nI_lt1 (show j < 2 ^ 31 by omega) (show b < 2 ^ 31 by omega)]
    by_cases c : j ≤ b
    · rw [if_pos c]
      exact ⟨σ, be, rfl, hb, fun j' hj' => h1 j' (by omega), Fo.refl _ _ _⟩
    · obtain ⟨k, rfl⟩ : ∃ k, j = k + 1 := ⟨j - 1, by omega⟩
      have hk : k < (tln (ts x)).length := by omega
      rw [if_neg c, nI_m1]
      obtain ⟨u, v, e1, e2, e3⟩ := hK.eq hx hi hk
      have i1 : (0 : Int32) * 200 + nI i = nI i := by rw [Int32.zero_mul, Int32.zero_add]
      have i2 : nI x * 200 + nI k = nI (x * 200 + k) := by rw [nI_mulL, nI_add]
      have d1 : (tln (ts 0)).drop i = (tln (ts 0))[i] :: (tln (ts 0)).drop (i + 1) := List.drop_eq_getElem_cons hi
      have d2 : (tln (ts x)).drop k = (tln (ts x))[k] :: (tln (ts x)).drop (k + 1) := List.drop_eq_getElem_cons hk
      have a1 := lI_of ha.1 (i := k) (by omega) (by omega)
      have a2 := lI_of ha.1 (i := k + 1) (by omega) (by omega)
      have b2 := lI_of hb.1 (i := k + 1) (by omega) (by omega)
      rw [hab k (by omega) (by omega)] at a1
      rw [hab (k + 1) (by omega) (by omega)] at a2
      rw [h1 (k + 1) (by omega) (by omega)] at b2
      have l1 := lcN_le _ ((tln (ts 0)).drop (i + 1)) ((tln (ts x)).drop k) (Nat.le_refl _)
      have l2 := lcN_le _ ((tln (ts 0)).drop i) ((tln (ts x)).drop (k + 1)) (Nat.le_refl _)
      rw [List.length_drop] at l1 l2
      have hnew := lcN_c (tln (ts 0))[i] (tln (ts x))[k] ((tln (ts 0)).drop (i + 1)) ((tln (ts x)).drop (k + 1))
      rw [← d1, ← d2] at hnew
      simp only [gA_of z (k := 10) rfl, i1, i2, e1, e2, Option.bind_some, nI_1, gA_of z (k := 13) rfl, gA_of z (k := 14) rfl, a1, a2, b2, e3]
      simp only [nI_leI (show lcN ((tln (ts 0)).drop (i + 1)) ((tln (ts x)).drop k) < 2 ^ 31 by omega) (show lcN ((tln (ts 0)).drop i) ((tln (ts x)).drop (k + 1)) < 2 ^ 31 by omega)]
      have go : ∀ w : Nat, w = lcN ((tln (ts 0)).drop i) ((tln (ts x)).drop k) → ∃ σ' be', ((am_sI σ 141 (nI k) (nI w)).bind fun σ35 => f_Md_common_l88 F 95 0 (nI x) (nI b) (nI i) kk m (nI k + (-1)) σ35) = kk σ' ∧ Ce g σ' 141 (cI 202 be') ∧ (∀ j', b ≤ j' → j' ≤ (tln (ts x)).length → be' j' = nI (lcN ((tln (ts 0)).drop i) ((tln (ts x)).drop j'))) ∧ Fo (fun a => a = 141) g σ g σ' := by
        intro w hw
        obtain ⟨σ1, q1, q2, q3⟩ := hb.si (v := nI w) (by omega) (show k < 202 by omega) (by omega)
        rw [q1, Option.bind_some]
        obtain ⟨σ', be', r1, r2, r3, r4⟩ := ih k σ1 _ (hc.fo q3 (by omega)) (hL.fo q3 fun a _ _ => by omega) (hK.fo q3 (by omega)) (ha.fo q3 (by omega)) q2 (fun j' hj' hj'' => by
          by_cases e : j' = k
          · subst e; rw [uf_same, hw]
          · rw [uf_ne e]; exact h1 j' (by omega) hj'') (by omega) (by omega) (by omega)
        exact ⟨σ', be', r1, r2, r3, q3.trans r4⟩
      by_cases he : (tln (ts 0))[i] = (tln (ts x))[k]
      · rw [if_pos he] at hnew
        rw [if_pos he]
        exact go _ hnew.symm
      · rw [if_neg he] at hnew
        rw [if_neg he]
        by_cases hle : lcN ((tln (ts 0)).drop (i + 1)) ((tln (ts x)).drop k) ≤ lcN ((tln (ts 0)).drop i) ((tln (ts x)).drop (k + 1))
        · rw [if_pos hle]
          exact go _ (by omega)
        · rw [if_neg hle]
          exact go _ (by omega)
abbrev CMT : Nat → Prop := fun a => a = 140 ∨ a = 141
theorem Md_c38 {a b : Nat} (hx : x < 3) (hb0 : b ≤ (tln (ts x)).length) (ha0 : a ≤ (tln (ts 0)).length) (hF : 131072 < F) : ∀ (m i : Nat) (σ : am_S) (ab be : Nat → Int32), Ce g σ 95 (MDC th bm gv gm cm fm) → LST g σ 3 ts → KND g σ 3 (fun x => tln (ts x)) → Ce g σ 140 (cI 202 ab) → Ce g σ 141 (cI 202 be) → (∀ j', b ≤ j' → j' ≤ (tln (ts x)).length → be j' = nI (lcN ((tln (ts 0)).drop i) ((tln (ts x)).drop j'))) → a ≤ i → i ≤ (tln (ts 0)).length → i - a < m →
    ∃ σ' ab' be', f_Md_common_l38 F 95 0 (nI a) (nI x) (nI b) m (nI i + (-1)) σ = some (nI (lcN ((tln (ts 0)).drop a) ((tln (ts x)).drop b)), σ') ∧ Ce g σ' 140 (cI 202 ab') ∧ Ce g σ' 141 (cI 202 be') ∧ Fo CMT g σ g σ' := by
  have hl := tlnL ts x
  have hl0 := tlnL ts 0
  intro m
  induction m with
  | zero => intro i _ _ _ _ _ _ _ _ _ _ _ h; omega
  | succ m ih =>
    intro i σ ab be hc hL hK ha hb h1 h2 h3 h4
    have z := hc.1
    unfold MDC at z
    rw [f_Md_common_l38]
    simp only [nI_lt1 (show i < 2 ^ 31 by omega) (show a < 2 ^ 31 by omega)]
    by_cases c : i ≤ a
    · have e : i = a := by omega
      subst e
      rw [if_pos c, gA_of z (k := 14) rfl, Option.bind_some, lI_of hb.1 (by omega) (by omega), Option.bind_some, h1 b (Nat.le_refl _) hb0]
      exact ⟨σ, ab, be, rfl, ha, hb, Fo.refl _ _ _⟩
    · obtain ⟨k, rfl⟩ : ∃ k, i = k + 1 := ⟨i - 1, by omega⟩
      have hk : k < (tln (ts 0)).length := by omega
      rw [if_neg c, nI_m1]
      obtain ⟨σ1, ab1, q1, q2, q3, q4⟩ := Md_c47 (F := F) hx (be := be) (kk := fun τ => f_Md_common_j78 F 95 0 (nI x) (nI b) (nI k) (fun y5 τ => f_Md_common_l38 F 95 0 (nI a) (nI x) (nI b) m y5 τ) τ) F 0 σ ab hc hL ha hb (fun j' hj' => by omega) (by omega) (by omega)
      rw [nI_0] at q1
      rw [q1]
      have hc1 := hc.fo q4 (by omega)
      have hL1 := hL.fo q4 fun a _ _ => by omega
      have hK1 := hK.fo q4 (by omega)
      have z1 := hc1.1
      unfold MDC at z1
      unfold f_Md_common_j78
      rw [gA_of z1 (k := 11) rfl, Option.bind_some, Md_cnt hL1 (by omega) hx, Option.bind_some, nI_s1]
      obtain ⟨σ2, be2, r1, r2, r3, r4⟩ := Md_c88 (F := F) (b := b) hx hk (ab := ab1) (fun j' hj' hj'' => by rw [q3 j' hj'']; exact h1 j' hj' hj'') (kk := fun τ => f_Md_common_j196 F (nI k) (fun y5 τ => f_Md_common_l38 F 95 0 (nI a) (nI x) (nI b) m y5 τ) τ) F (tln (ts x)).length σ1 be hc1 hL1 hK1 q2 (hb.fo q4 (by omega)) (fun j' hj' hj'' => by
        have e : j' = (tln (ts x)).length := by omega
        subst e
        rw [h1 _ hb0 (Nat.le_refl _), List.drop_of_length_le (Nat.le_refl _), lcN_nr, lcN_nr]) hb0 (Nat.le_refl _) (by omega)
      rw [r1]
      unfold f_Md_common_j196
      obtain ⟨σ', ab', be', t1, t2, t3, t4⟩ := ih k σ2 ab1 be2 (hc1.fo r4 (by omega)) (hL1.fo r4 fun a _ _ => by omega) (hK1.fo r4 (by omega)) (q2.fo r4 (by omega)) r2 r3 (by omega) (by omega) (by omega)
      exact ⟨σ', ab', be', t1, t2, t3, ((q4.mono fun a ha => Or.inl ha).trans (r4.mono fun a ha => Or.inr ha)).trans t4⟩
theorem Md_common {σ : am_S} {a b : Nat} {ab be : Nat → Int32} (hc : Ce g σ 95 (MDC th bm gv gm cm fm)) (hL : LST g σ 3 ts) (hK : KND g σ 3 (fun x => tln (ts x))) (ha : Ce g σ 140 (cI 202 ab)) (hb : Ce g σ 141 (cI 202 be)) (hx : x < 3) (hb0 : b ≤ (tln (ts x)).length) (ha0 : a ≤ (tln (ts 0)).length) (hF : 131072 < F) :
    ∃ σ' ab' be', f_Md_common F σ 95 0 (nI a) (nI x) (nI b) = some (nI (lcN ((tln (ts 0)).drop a) ((tln (ts x)).drop b)), σ') ∧ Ce g σ' 140 (cI 202 ab') ∧ Ce g σ' 141 (cI 202 be') ∧ Fo CMT g σ g σ' := by
  have hl := tlnL ts x
  have hl0 := tlnL ts 0
  obtain ⟨σ1, be1, q1, q2, q3, q4⟩ := Md_c3 (F := F) hx (kk := fun τ => f_Md_common_j28 F 95 0 (nI a) (nI x) (nI b) τ) F 0 σ be hc hL hb (fun j' hj' => by omega) (by omega) (by omega)
  rw [nI_0] at q1
  have hc1 := hc.fo q4 (by omega)
  have hL1 := hL.fo q4 fun a _ _ => by omega
  have z := hc.1
  have z1 := hc1.1
  unfold MDC at z z1
  have cn := Md_cnt hL1 (by omega) (j := 0) (by omega)
  rw [nI_0] at cn
  unfold f_Md_common
  rw [am_ck_of z, q1]
  unfold f_Md_common_j28
  rw [gA_of z1 (k := 11) rfl, Option.bind_some, cn, Option.bind_some, nI_s1]
  obtain ⟨σ', ab', be', t1, t2, t3, t4⟩ := Md_c38 (F := F) (a := a) (b := b) hx hb0 ha0 hF F (tln (ts 0)).length σ1 ab be1 hc1 hL1 (hK.fo q4 (by omega)) (ha.fo q4 (by omega)) q2 (fun j' _ hj' => by
    rw [q3 j' hj', List.drop_of_length_le (Nat.le_refl _), lcN_nl]; rfl) ha0 (Nat.le_refl _) (by omega)
  exact ⟨σ', ab', be', t1, t2, t3, (q4.mono fun a ha => Or.inr ha).trans t4⟩
theorem Md_p7 (hx : x < 3) {kk : am_S → Option am_S} : ∀ (m j : Nat) (σ : am_S) (pr : Nat → Int32), Ce g σ 95 (MDC th bm gv gm cm fm) → Ce g σ 139 (cI 600 pr) → (∀ j', j' < j → pr (x * 200 + j') = -1) → j ≤ 200 → 200 - j < m →
    ∃ σ' pr', f_Md_pair_l7 F 95 (nI x) kk m (nI j) σ = kk σ' ∧ Ce g σ' 139 (cI 600 pr') ∧ (∀ j', j' < 200 → pr' (x * 200 + j') = -1) ∧ (∀ j', j' < x * 200 ∨ x * 200 + 200 ≤ j' → pr' j' = pr j') ∧ Fo (fun a => a = 139) g σ g σ' := by
  intro m
  induction m with
  | zero => intro j _ _ _ _ _ _ h; omega
  | succ m ih =>
    intro j σ pr hc hp h1 h2 h3
    have z := hc.1
    unfold MDC at z
    rw [f_Md_pair_l7]
    have e200 : ((200 : Int32) ≤ nI j) ↔ 200 ≤ j := nI_leI (a := 200) (by omega) (by omega)
    simp only [e200]
    by_cases c : 200 ≤ j
    · rw [if_pos c]
      exact ⟨σ, pr, rfl, hp, fun j' hj' => h1 j' (by omega), fun _ _ => rfl, Fo.refl _ _ _⟩
    · have i2 : nI x * 200 + nI j = nI (x * 200 + j) := by rw [nI_mulL, nI_add]
      obtain ⟨σ1, q1, q2, q3⟩ := hp.si (v := -1) (by omega) (show x * 200 + j < 600 by omega) (by omega)
      rw [if_neg c, gA_of z (k := 12) rfl, Option.bind_some, i2, q1, Option.bind_some, nI_1]
      obtain ⟨σ', pr', r1, r2, r3, r4, r5⟩ := ih (j + 1) σ1 _ (hc.fo q3 (by omega)) q2 (fun j' hj' => by
        by_cases e : j' = j
        · subst e; exact uf_same _ _ _
        · rw [uf_ne (by omega)]; exact h1 j' (by omega)) (by omega) (by omega)
      exact ⟨σ', pr', r1, r2, r3, fun j' hj' => by rw [r4 j' hj', uf_ne (by omega)], q3.trans r5⟩
abbrev PRT : Nat → Prop := fun a => 139 ≤ a ∧ a ≤ 141
theorem Md_p35 (hx : x < 3) (hF : 131072 < F) : ∀ (m i j : Nat) (σ : am_S) (pr ab be : Nat → Int32), Ce g σ 95 (MDC th bm gv gm cm fm) → LST g σ 3 ts → KND g σ 3 (fun x => tln (ts x)) → Ce g σ 140 (cI 202 ab) → Ce g σ 141 (cI 202 be) → Ce g σ 139 (cI 600 pr) →
    (∀ k, k < i → pr (x * 200 + k) = oI ((prL (tln (ts 0)) (tln (ts x)) 0).getD k none)) → (∀ k, i ≤ k → k < (tln (ts 0)).length → pr (x * 200 + k) = -1) → (prL (tln (ts 0)) (tln (ts x)) 0).drop i = prL ((tln (ts 0)).drop i) ((tln (ts x)).drop j) j → i ≤ (tln (ts 0)).length → j ≤ (tln (ts x)).length → ((tln (ts 0)).length - i) + ((tln (ts x)).length - j) < m →
    ∃ σ' pr' ab' be', f_Md_pair_l35 F 95 (nI x) m (nI i) (nI j) σ = some σ' ∧ Ce g σ' 139 (cI 600 pr') ∧ Ce g σ' 140 (cI 202 ab') ∧ Ce g σ' 141 (cI 202 be') ∧ (∀ k, k < (tln (ts 0)).length → pr' (x * 200 + k) = oI ((prL (tln (ts 0)) (tln (ts x)) 0).getD k none)) ∧ (∀ j', j' < x * 200 ∨ x * 200 + 200 ≤ j' → pr' j' = pr j') ∧ Fo PRT g σ g σ' := by
  have hl := tlnL ts x
  have hl0 := tlnL ts 0
  intro m
  induction m with
  | zero => intro i j _ _ _ _ _ _ _ _ _ _ _ _ _ _ _ h; omega
  | succ m ih =>
    intro i j σ pr ab be hc hL hK ha hb hp hp1 hp2 hd hi hj hm
    have z := hc.1
    unfold MDC at z
    have cn := Md_cnt hL (by omega) (j := 0) (by omega)
    rw [nI_0] at cn
    rw [f_Md_pair_l35, gA_of z (k := 11) rfl, Option.bind_some, cn, Option.bind_some]
    by_cases ci : (tln (ts 0)).length ≤ i
    · rw [if_pos (nI_le ci (by omega))]
      exact ⟨σ, pr, ab, be, rfl, hp, ha, hb, fun k hk => hp1 k (by omega), fun _ _ => rfl, Fo.refl _ _ _⟩
    · rw [if_neg (nI_ge (by omega) (by omega)), Option.bind_some, Md_cnt hL (by omega) hx, Option.bind_some]
      by_cases cj : (tln (ts x)).length ≤ j
      · rw [if_pos (nI_le cj (by omega))]
        refine ⟨σ, pr, ab, be, rfl, hp, ha, hb, fun k hk => ?_, fun _ _ => rfl, Fo.refl _ _ _⟩
        by_cases hki : k < i
        · exact hp1 k hki
        · rw [hp2 k (by omega) hk]
          rw [List.drop_eq_nil_of_le (as := tln (ts x)) cj, prL_nr] at hd
          have := getD_drop (k := k - i) hd
          rw [show i + (k - i) = k by omega] at this
          rw [this]
          have e0 : (List.replicate (List.drop i (tln (ts 0))).length (none : Option Nat)).getD (k - i) none = none := by
            rw [List.getD_eq_getElem?_getD, List.getElem?_replicate]
            split <;> rfl
          rw [e0]; rfl
      · rw [if_neg (nI_ge (by omega) (by omega))]
        have hi' : i < (tln (ts 0)).length := by omega
        have hj' : j < (tln (ts x)).length := by omega
        obtain ⟨u, v, e1, e2, e3⟩ := hK.eq hx hi' hj'
        have i2 : nI x * 200 + nI j = nI (x * 200 + j) := by rw [nI_mulL, nI_add]
        have i3 : nI x * 200 + nI i = nI (x * 200 + i) := by rw [nI_mulL, nI_add]
        have d1 : (tln (ts 0)).drop i = (tln (ts 0))[i] :: (tln (ts 0)).drop (i + 1) := List.drop_eq_getElem_cons hi'
        have d2 : (tln (ts x)).drop j = (tln (ts x))[j] :: (tln (ts x)).drop (j + 1) := List.drop_eq_getElem_cons hj'
        have hpl : (prL (tln (ts 0)) (tln (ts x)) 0).length = (tln (ts 0)).length := (prL_ok _ _ _ _ (Nat.le_refl _)).1
        have d3 : (prL (tln (ts 0)) (tln (ts x)) 0).drop i = (prL (tln (ts 0)) (tln (ts x)) 0)[i] :: (prL (tln (ts 0)) (tln (ts x)) 0).drop (i + 1) := List.drop_eq_getElem_cons (by omega)
        have d4 : (prL (tln (ts 0)) (tln (ts x)) 0).getD i none = (prL (tln (ts 0)) (tln (ts x)) 0)[i] := by simp [hpl, hi']
        rw [d1, d2, prL_c] at hd
        rw [gA_of z (k := 10) rfl, Option.bind_some, e1, Option.bind_some, Option.bind_some, i2, e2, Option.bind_some]
        simp only [e3]
        by_cases he : (tln (ts 0))[i] = (tln (ts x))[j]
        · rw [if_pos he]
          rw [if_pos he, d3] at hd
          obtain ⟨x1, x2⟩ := List.cons.inj hd
          obtain ⟨σ1, q1, q2, q3⟩ := hp.si (v := nI j) (by omega) (show x * 200 + i < 600 by omega) (by omega)
          rw [gA_of z (k := 12) rfl, Option.bind_some, i3, q1, Option.bind_some, nI_1, nI_1]
          obtain ⟨σ', pr', ab', be', r1, r2, r3, r4, r5, r6, r7⟩ := ih (i + 1) (j + 1) σ1 _ ab be (hc.fo q3 (by omega)) (hL.fo q3 fun a _ _ => by omega) (hK.fo q3 (by omega)) (ha.fo q3 (by omega)) (hb.fo q3 (by omega)) q2 (fun k hk => by
            by_cases e : k = i
            · subst e; rw [uf_same, d4, x1]; rfl
            · rw [uf_ne (by omega)]; exact hp1 k (by omega)) (fun k hk hk' => by rw [uf_ne (by omega)]; exact hp2 k (by omega) hk') x2 (by omega) (by omega) (by omega)
          exact ⟨σ', pr', ab', be', r1, r2, r3, r4, r5, fun j' hj' => by rw [r6 j' hj', uf_ne (by omega)], (q3.mono fun a ha => ⟨by omega, by omega⟩).trans r7⟩
        · rw [if_neg he]
          rw [if_neg he] at hd
          rw [← d1, ← d2] at hd
          obtain ⟨σ1, ab1, be1, q1, q2, q3, q4⟩ := Md_common (F := F) (a := i + 1) (b := j) hc hL hK ha hb hx (by omega) (by omega) hF
          have hc1 := hc.fo q4 (by omega)
          have hL1 := hL.fo q4 fun a _ _ => by omega
          have hK1 := hK.fo q4 (by omega)
          obtain ⟨σ2, ab2, be2, r1, r2, r3, r4⟩ := Md_common (F := F) (a := i) (b := j + 1) hc1 hL1 hK1 q2 q3 hx (by omega) (by omega) hF
          have b1 := lcN_le _ ((tln (ts 0)).drop (i + 1)) ((tln (ts x)).drop j) (Nat.le_refl _)
          have b2 := lcN_le _ ((tln (ts 0)).drop i) ((tln (ts x)).drop (j + 1)) (Nat.le_refl _)
          rw [List.length_drop] at b1 b2
          rw [nI_1, nI_1, q1]
          simp only [am_b2, Option.bind_some]
          rw [r1]
          simp only [am_b2, Option.bind_some]
          simp only [nI_ltI (show lcN ((tln (ts 0)).drop (i + 1)) ((tln (ts x)).drop j) < 2 ^ 31 by omega) (show lcN ((tln (ts 0)).drop i) ((tln (ts x)).drop (j + 1)) < 2 ^ 31 by omega)]
          have W : Fo PRT g σ g σ2 := (q4.mono fun a ha => ⟨by omega, by omega⟩).trans (r4.mono fun a ha => ⟨by omega, by omega⟩)
          have hc2 := hc1.fo r4 (by omega)
          have hL2 := hL1.fo r4 fun a _ _ => by omega
          have hK2 := hK1.fo r4 (by omega)
          have hp2' := (hp.fo q4 (by omega)).fo r4 (by omega)
          by_cases hlt' : lcN ((tln (ts 0)).drop (i + 1)) ((tln (ts x)).drop j) < lcN ((tln (ts 0)).drop i) ((tln (ts x)).drop (j + 1))
          · rw [if_pos hlt']
            rw [if_pos hlt'] at hd
            obtain ⟨σ', pr', ab', be', t1, t2, t3, t4, t5, t6, t7⟩ := ih i (j + 1) σ2 pr ab2 be2 hc2 hL2 hK2 r2 r3 hp2' hp1 hp2 hd hi (by omega) (by omega)
            exact ⟨σ', pr', ab', be', t1, t2, t3, t4, t5, t6, W.trans t7⟩
          · rw [if_neg hlt']
            rw [if_neg hlt', d3] at hd
            obtain ⟨x1, x2⟩ := List.cons.inj hd
            obtain ⟨σ', pr', ab', be', t1, t2, t3, t4, t5, t6, t7⟩ := ih (i + 1) j σ2 pr ab2 be2 hc2 hL2 hK2 r2 r3 hp2' (fun k hk => by
              by_cases e : k = i
              · subst e
                rw [hp2 k (Nat.le_refl _) hi', d4, x1]; rfl
              · exact hp1 k (by omega)) (fun k hk hk' => hp2 k (by omega) hk') x2 (by omega) hj (by omega)
            exact ⟨σ', pr', ab', be', t1, t2, t3, t4, t5, t6, W.trans t7⟩
theorem Md_pair {σ : am_S} {pr ab be : Nat → Int32} (hc : Ce g σ 95 (MDC th bm gv gm cm fm)) (hL : LST g σ 3 ts) (hK : KND g σ 3 (fun x => tln (ts x))) (ha : Ce g σ 140 (cI 202 ab)) (hb : Ce g σ 141 (cI 202 be)) (hp : Ce g σ 139 (cI 600 pr)) (hx : x < 3) (hF : 131072 < F) :
    ∃ σ' pr' ab' be', f_Md_pair F σ 95 (nI x) = some σ' ∧ Ce g σ' 139 (cI 600 pr') ∧ Ce g σ' 140 (cI 202 ab') ∧ Ce g σ' 141 (cI 202 be') ∧ (∀ k, k < (tln (ts 0)).length → pr' (x * 200 + k) = oI ((prL (tln (ts 0)) (tln (ts x)) 0).getD k none)) ∧ (∀ j', j' < x * 200 ∨ x * 200 + 200 ≤ j' → pr' j' = pr j') ∧ Fo PRT g σ g σ' := by
  have hl := tlnL ts x
  have hl0 := tlnL ts 0
  have z := hc.1
  unfold MDC at z
  obtain ⟨σ1, pr1, q1, q2, q3, q4, q5⟩ := Md_p7 (F := F) hx (kk := fun τ => f_Md_pair_l35 F 95 (nI x) F 0 0 τ) F 0 σ pr hc hp (fun j' hj' => by omega) (by omega) (by omega)
  obtain ⟨σ', pr', ab', be', t1, t2, t3, t4, t5, t6, t7⟩ := Md_p35 (F := F) hx hF F 0 0 σ1 pr1 ab be (hc.fo q5 (by omega)) (hL.fo q5 fun a _ _ => by omega) (hK.fo q5 (by omega)) (ha.fo q5 (by omega)) (hb.fo q5 (by omega)) q2 (fun k hk => by omega) (fun k _ hk => q3 k (by omega)) (by rw [List.drop_zero, List.drop_zero, List.drop_zero]) (by omega) (by omega) (by omega)
  rw [nI_0] at q1 t1
  unfold f_Md_pair
  rw [am_ck_of z, q1]
  exact ⟨σ', pr', ab', be', t1, t2, t3, t4, t5, fun j' hj' => by rw [t6 j' hj', q4 j' hj'], (q5.mono fun a ha => ⟨by omega, by omega⟩).trans t7⟩
end CM
