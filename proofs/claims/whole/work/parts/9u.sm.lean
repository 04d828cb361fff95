/-! ===== L3: the reference: putting the OUTCOMES in order ===== -/
def cuI (O : List Og) (I : List Nat) (cur : Option Nat) (j : Nat) : Prop := (∀ c, cur = some c → c < O.length ∧ cand O I c ∧ ∀ i, i < j → cand O I i → ¬ ltP (op O i) (op O c)) ∧ (cur = none → ∀ i, i < j → ¬ cand O I i)
theorem cuI.skip {O : List Og} {I : List Nat} {cur : Option Nat} {j : Nat} (h : cuI O I cur j) (hn : ¬ cand O I j) : cuI O I cur (j + 1) := by
  refine ⟨fun c hc => ⟨(h.1 c hc).1, (h.1 c hc).2.1, fun i hi hca => ?_⟩, fun hc i hi => ?_⟩
  · by_cases e : i = j
    · subst e; exact absurd hca hn
    · exact (h.1 c hc).2.2 i (by omega) hca
  · by_cases e : i = j
    · subst e; exact hn
    · exact h.2 hc i (by omega)
theorem cand_nil {O : List Og} {i : Nat} : cand O [] i := fun l hl => by cases hl
theorem cand_last {O : List Og} {I : List Nat} {i : Nat} (h : 0 < I.length) : cand O I i ↔ 0 < cmpV (op O i) (op O (I[I.length - 1]'(by omega))) := by
  have hl : I.getLast? = some (I[I.length - 1]'(by omega)) := by rw [List.getLast?_eq_getElem?, List.getElem?_eq_getElem (by omega)]
  constructor
  · intro hc; exact hc _ hl
  · intro hc l h2
    rw [hl] at h2
    cases h2
    exact hc
section SM
variable {g : Gh} {F : Nat} {th gv bm gm cm fm : Int32} {O : List Og} {I : List Nat}
theorem oq_cmp {σ : am_S} {i j : Nat} (hO : OI g σ O) (hi : i < O.length) (hj : j < O.length) (hF : 131072 < F) : f_Ps_comparea F σ 145 (nI i) 145 (nI j) = some (cmpV (op O i) (op O j)) := by
  have := Ps_cmp (F := F) hO.1 hO.1 (i := i) (j := j) (by rw [oqA_len]; exact hi) (by rw [oqA_len]; exact hj) hF
  rw [(oqA_op hi).2, (oqA_op hj).2] at this
  exact this
theorem Md_l350 {σ : am_S} (hc : Ce g σ 95 (MDC th bm gv gm cm fm)) (hO : OI g σ O) (hR : Ps g σ 151 (rQ O I)) (hB : ogB O) (hG : GI O I) (hF : 131072 < F) {kk : Int32 → am_S → Option ((Nat ⊕ Unit) × am_S)} : ∀ (m j : Nat) (cur : Option Nat), cuI O I cur j → j ≤ O.length → O.length - j < m →
    ∃ cur', f_Md_mergeMaps_l350 F 95 kk m (oI cur) (nI j) σ = kk (oI cur') σ ∧ cuI O I cur' O.length := by
  have z := hc.1
  unfold MDC at z
  have g23 : am_gA σ 10 23 95 = some 145 := gA_of z (k := 23) rfl
  have g24 : am_gA σ 10 24 95 = some 151 := gA_of z (k := 24) rfl
  have hn5 := Ps_n hO.1
  have hn1 := Ps_n hR
  rw [oqA_len] at hn5
  rw [rQ_len] at hn1
  have hol := (OI_at hO).1
  have hrl := (Ps_ob hR).2
  rw [rQ_len] at hrl
  intro m
  induction m with
  | zero => intro j _ _ _ h; omega
  | succ m ih =>
    intro j cur hI hj hm
    rw [f_Md_mergeMaps_l350, g23, Option.bind_some, hn5, Option.bind_some]
    by_cases c : O.length ≤ j
    · have e : j = O.length := by omega
      subst e
      rw [if_pos (nI_le c (by omega))]
      exact ⟨cur, rfl, hI⟩
    · have hj' : j < O.length := by omega
      rw [if_neg (nI_ge hj' (by omega)), g24, Option.bind_some, hn1, Option.bind_some]
      have yes : cand O I j → ∃ cur', f_Md_mergeMaps_j398 F 95 (oI cur) (nI j) (fun y2 y3 τ => f_Md_mergeMaps_l350 F 95 kk m y2 y3 τ) σ = kk (oI cur') σ ∧ cuI O I cur' O.length := by
        intro hca
        unfold f_Md_mergeMaps_j398
        cases cur with
        | none =>
          rw [if_pos (show oI none < 0 by decide), nI_1]
          refine ih (j + 1) (some j) ⟨fun c hc => ?_, fun hc => by cases hc⟩ (by omega) (by omega)
          cases hc
          refine ⟨hj', hca, fun i hi hci => ?_⟩
          by_cases e : i = j
          · subst e; exact ltP_irr (hB i hj')
          · exact absurd hci (hI.2 rfl i (by omega))
        | some x =>
          obtain ⟨x1, x2, x3⟩ := hI.1 x rfl
          rw [oI_some, if_neg (nI_pos (by omega)), g23, Option.bind_some, Option.bind_some, oq_cmp hO hj' x1 hF, Option.bind_some, nI_1]
          by_cases hle : 0 ≤ cmpV (op O j) (op O x)
          · rw [if_pos hle]
            refine ih (j + 1) (some x) ⟨fun c hc => ?_, fun hc => by cases hc⟩ (by omega) (by omega)
            cases hc
            refine ⟨x1, x2, fun i hi hci => ?_⟩
            by_cases e : i = j
            · subst e
              intro hlt
              exact (Int32.not_lt.mpr hle) hlt
            · exact x3 i (by omega) hci
          · rw [if_neg hle]
            have hlt : ltP (op O j) (op O x) := Int32.not_le.mp hle
            refine ih (j + 1) (some j) ⟨fun c hc => ?_, fun hc => by cases hc⟩ (by omega) (by omega)
            cases hc
            refine ⟨hj', hca, fun i hi hci => ?_⟩
            by_cases e : i = j
            · subst e; exact ltP_irr (hB i hj')
            · intro h2
              exact x3 i (by omega) hci (ltP_trans (hB i (by omega)) (hB j hj') (hB x x1) h2 hlt)
      by_cases c0 : I.length = 0
      · have e : I = [] := List.length_eq_zero_iff.mp c0
        rw [if_pos (show nI I.length ≤ 0 by rw [c0]; decide)]
        exact yes (by rw [e]; exact cand_nil)
      · rw [if_neg (nI_nle (by omega) (by omega)), Option.bind_some, Option.bind_some, Option.bind_some, hn1, Option.bind_some]
        have es : nI I.length - 1 = nI (I.length - 1) := nI_sub (b := 1) (by omega)
        have hcm := Ps_cmp (F := F) hO.1 hR (i := j) (j := I.length - 1) (by rw [oqA_len]; exact hj') (by rw [rQ_len]; omega) hF
        rw [(oqA_op hj').2, rQ_get hG.1 (by omega)] at hcm
        rw [es, hcm, Option.bind_some]
        by_cases hca : cand O I j
        · rw [if_pos ((cand_last (by omega)).mp hca)]
          exact yes hca
        · rw [if_neg (fun q => hca ((cand_last (by omega)).mpr q)), nI_1]
          exact ih (j + 1) cur (hI.skip hca) (by omega) (by omega)
theorem Md_l335 (hB : ogB O) (hn : O.length ≤ 1200) (hl : sl (ogP O) ≤ 16384) (hF : 131072 < F) {kk : am_S → Option ((Nat ⊕ Unit) × am_S)} : ∀ (m : Nat) (I : List Nat) (g : Gh) (σ : am_S), Ce g σ 95 (MDC th bm gv gm cm fm) → OI g σ O → Ps g σ 151 (rQ O I) → GI O I → I.length ≤ O.length → O.length - I.length < m →
    (∃ g' σ' I', f_Md_mergeMaps_l335 F 95 kk m (nI I.length) σ = some (.inl 1, σ') ∧ Ps g' σ' 151 (rQ O I') ∧ GI O I' ∧ I'.length < O.length ∧ (∀ i, i < O.length → ¬ cand O I' i) ∧ Fo (PsT 151) g σ g' σ') ∨ ∃ g' σ' I', f_Md_mergeMaps_l335 F 95 kk m (nI I.length) σ = kk σ' ∧ Ps g' σ' 151 (rQ O I') ∧ GI O I' ∧ I'.length = O.length ∧ Fo (PsT 151) g σ g' σ' := by
  intro m
  induction m with
  | zero => intro I _ _ _ _ _ _ _ h; omega
  | succ m ih =>
    intro I g σ hc hO hR hG hIl hm
    have z := hc.1
    unfold MDC at z
    have g23 : am_gA σ 10 23 95 = some 145 := gA_of z (k := 23) rfl
    have g24 : am_gA σ 10 24 95 = some 151 := gA_of z (k := 24) rfl
    have hn5 := Ps_n hO.1
    rw [oqA_len] at hn5
    rw [f_Md_mergeMaps_l335, g23, Option.bind_some, hn5, Option.bind_some]
    by_cases c : O.length ≤ I.length
    · rw [if_pos (nI_le c (by omega))]
      exact Or.inr ⟨g, σ, I, rfl, hR, hG, by omega, Fo.refl _ _ _⟩
    · rw [if_neg (nI_ge (by omega) (by omega))]
      obtain ⟨cur, q1, q2⟩ := Md_l350 (F := F) hc hO hR hB hG hF (kk := fun y2 τ => f_Md_mergeMaps_j426 F 95 (nI I.length) y2 (fun y1 τ => f_Md_mergeMaps_l335 F 95 kk m y1 τ) τ) F 0 none ⟨fun c hc => (by cases hc), fun _ i hi => absurd hi (by omega)⟩ (by omega) (by omega)
      rw [show f_Md_mergeMaps_l350 F 95 (fun y2 τ => f_Md_mergeMaps_j426 F 95 (nI I.length) y2 (fun y1 τ => f_Md_mergeMaps_l335 F 95 kk m y1 τ) τ) F (-1) 0 σ = _ from q1]
      unfold f_Md_mergeMaps_j426 f_Md_mergeMaps_j435 f_Md_allow
      cases cur with
      | none =>
        rw [if_pos (show oI none < 0 by decide), if_pos rfl]
        exact Or.inl ⟨g, σ, I, rfl, hR, hG, by omega, q2.2 rfl, Fo.refl _ _ _⟩
      | some x =>
        obtain ⟨x1, x2, x3⟩ := q2.1 x rfl
        have hG2 : GI O (I ++ [x]) := hG.snoc hB x1 x2 x3
        have hsum := hG2.sum hB
        have hs1 := rQ_sl hG.1
        rw [List.map_append, List.sum_append_nat] at hsum
        simp only [List.map_cons, List.map_nil, List.sum_cons, List.sum_nil] at hsum
        have hxl : x < (oqA 0 O).length := by rw [oqA_len]; exact x1
        obtain ⟨g1, σ1, a1, a2, a3⟩ := Ps_take (F := F) hR hO.1 (by omega) hxl (by rw [rQ_len]; omega) (by rw [(oqA_op x1).2]; omega) hF
        have hL : I.length < (rQ O I ++ [(oqA 0 O)[x]]).length := by rw [List.length_append, rQ_len]; simp
        obtain ⟨b1, σ2, b2, b3, b4⟩ := Ps_setV (c := 1) (v := nI x) a2 hL (by omega)
        have hset : (rQ O I ++ [(oqA 0 O)[x]]).set I.length (setV (rQ O I ++ [(oqA 0 O)[x]])[I.length] 1 (nI x)) = rQ O (I ++ [x]) := by
          have e1 : (rQ O I ++ [(oqA 0 O)[x]])[I.length] = (oqA 0 O)[x] := by
            rw [List.getElem_append_right (by rw [rQ_len]; exact Nat.le_refl _)]
            simp [rQ_len]
          rw [e1, List.set_append_right _ _ (by rw [rQ_len]; exact Nat.le_refl _)]
          simp only [rQ_len, Nat.sub_self, List.set_cons_zero]
          unfold rQ
          rw [List.map_append, List.map_cons, List.map_nil, (oqA_op x1).1]
        rw [hset] at b3
        have z1 := (hc.fo a3 (by omega)).1
        unfold MDC at z1
        have W : Fo (PsT 151) g σ g1 σ2 := a3.trans (b4.mono fun a ha => ⟨by omega, by omega⟩)
        have ei : 3 * nI I.length + 1 = nI (3 * I.length + 1) := by
          have : 3 * nI I.length = nI (3 * I.length) := nI_mul 3 I.length
          rw [this, nI_1]
        rw [oI_some, if_neg (nI_pos (by omega)), if_neg (by decide)]
        simp only [am_bt, am_btf, Option.bind_some]
        rw [g24, Option.bind_some, g23, Option.bind_some, a1, Option.bind_some, gA_of z1 (k := 24) rfl, Option.bind_some, b1, Option.bind_some, ei, b2, Option.bind_some, nI_1]
        have hlen : (I ++ [x]).length = I.length + 1 := by simp
        have := ih (I ++ [x]) g1 σ2 (hc.fo W (by omega)) (hO.fo W fun a ha => by omega) b3 hG2 (by omega) (by omega)
        rw [hlen] at this
        rcases this with ⟨g', σ', I', r1, r2, r3, r4, r5, r6⟩ | ⟨g', σ', I', r1, r2, r3, r4, r5⟩
        · exact Or.inl ⟨g', σ', I', r1, r2, r3, r4, r5, W.trans r6⟩
        · exact Or.inr ⟨g', σ', I', r1, r2, r3, r4, W.trans r5⟩
/-- the OUTCOMES in their order, or refused -/
theorem Md_j326 {σ : am_S} (hB : ogB O) (hn : O.length ≤ 1200) (hl : sl (ogP O) ≤ 16384) (hF : 131072 < F) (hc : Ce g σ 95 (MDC th bm gv gm cm fm)) (hO : OI g σ O) (hR : ∃ Q, Ps g σ 151 Q) :
    ∃ g' σ' I, (∃ Q, Ps g' σ' 151 Q) ∧ Fo (PsT 151) g σ g' σ' ∧ match plcs [] (ogP O) with
      | none => f_Md_mergeMaps_j326 F 95 σ = some (.inl 1, σ')
      | some Pl => f_Md_mergeMaps_j326 F 95 σ = some (.inr (), σ') ∧ Ps g' σ' 151 (rQ O I) ∧ GI O I ∧ I.length = O.length ∧ Pl = iP O I := by
  obtain ⟨Q0, hR⟩ := hR
  have z := hc.1
  unfold MDC at z
  obtain ⟨σ1, a1, a2, a3⟩ := Ps_clear (F := F) hR
  have hc1 := hc.fo a3 (by omega)
  have hO1 := hO.fo a3 fun a ha => by omega
  have hl3 := Md_l335 (F := F) hB hn hl hF (kk := fun τ => f_Md_mergeMaps_j470 F 95 τ) F [] g σ1 hc1 hO1 a2 GI.nil (by simp) (by simp; omega)
  rw [List.length_nil, nI_0] at hl3
  unfold f_Md_mergeMaps_j326
  rw [gA_of z (k := 24) rfl, Option.bind_some, a1, Option.bind_some]
  rcases hl3 with ⟨g', σ', I', r1, r2, r3, r4, r5, r6⟩ | ⟨g', σ', I', r1, r2, r3, r4, r5⟩
  · refine ⟨g', σ', I', ⟨_, r2⟩, a3.trans r6, ?_⟩
    rw [sort_no hB r3 r4 r5]
    exact r1
  · refine ⟨g', σ', I', ⟨_, r2⟩, a3.trans r5, ?_⟩
    obtain ⟨s1, s2⟩ := sort_all hB r3 r4 (by omega)
    have hc2 := hc1.fo r5 (by omega)
    have z2 := hc2.1
    unfold MDC at z2
    have hf := Ps_fits (F := F) r2 hF
    have fin : f_Md_mergeMaps_j470 F 95 σ' = if fiB (rQ O I') = true then some (.inr (), σ') else some (.inl 1, σ') := by
      unfold f_Md_mergeMaps_j470 f_Md_allow
      rw [gA_of z2 (k := 24) rfl, Option.bind_some, hf, Option.bind_some]
      cases fiB (rQ O I') with
      | true => rw [if_neg (by decide), if_pos rfl]; rfl
      | false => rw [if_pos (by decide), if_neg (by decide)]; rfl
    rw [r1]
    cases hp : plcs [] (ogP O) with
    | none =>
      simp only
      rw [fin, if_neg]
      intro hfi
      obtain ⟨Pl, h⟩ := s1.mp hfi
      rw [hp] at h
      cases h
    | some Pl =>
      simp only
      rw [fin, if_pos (s1.mpr ⟨Pl, hp⟩)]
      exact ⟨rfl, r2, r3, r4, s2 Pl hp⟩
end SM
