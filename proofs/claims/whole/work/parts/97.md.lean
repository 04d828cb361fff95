/-! ===== L3: the reference: PATHS, BLOBS ===== -/
def slB (t : List Int32) (i j : Nat) : List Int32 := (t.take j).drop i
theorem slB_len {t : List Int32} {i j : Nat} (hj : j ≤ t.length) : (slB t i j).length = j - i := by simp [slB]; omega
theorem slB_get {t : List Int32} {i j k : Nat} (h : i + k < j) : (slB t i j)[k]? = t[i + k]? := by
  unfold slB
  rw [List.getElem?_drop, List.getElem?_take_of_lt h]
theorem slB_nil (t : List Int32) (i : Nat) : slB t i i = [] := by
  unfold slB
  apply List.drop_of_length_le
  simp
  omega
theorem slB_snoc {t : List Int32} {i j : Nat} (hij : i ≤ j) (hj : j < t.length) : slB t i (j + 1) = slB t i j ++ [t[j]] := by
  unfold slB
  rw [List.take_succ_eq_append_getElem hj, List.drop_append_of_le_length (by simp; omega)]
theorem slB_cons {t : List Int32} {i j : Nat} (hij : i < j) (hj : j ≤ t.length) : slB t i j = t[i] :: slB t (i + 1) j := slB_succ hij hj
theorem byte_k {x : Int32} (hx : am_i2b x = x) : ∃ k : Nat, k < 256 ∧ x &&& 255 = nI k ∧ x = am_i2b (nI k) := by
  obtain ⟨k, hk, e⟩ := and255 x
  refine ⟨k, by omega, e, ?_⟩
  rw [← e]
  conv => lhs; rw [← hx]
  unfold am_i2b
  rw [Int32.toInt8_and]
  have : (255 : Int32).toInt8 = -1 := by decide
  rw [this]
  simp
theorem ok_dec : ∀ k : Fin 256, (decide (¬ nI k.val < 33) && decide (¬ 126 < nI k.val)) = okByte (am_i2b (nI k.val)) := by decide +kernel
theorem d46_dec : ∀ k : Fin 256, decide (nI k.val = 46) = decide (am_i2b (nI k.val) = 46) := by decide +kernel
theorem d47_dec : ∀ k : Fin 256, decide (nI k.val = 47) = decide (am_i2b (nI k.val) = 47) := by decide +kernel
theorem ok_byte {x : Int32} (hx : am_i2b x = x) : okByte x = (decide (¬ x &&& 255 < 33) && decide (¬ 126 < x &&& 255)) := by
  obtain ⟨k, hk, e1, e2⟩ := byte_k hx
  rw [e1, e2, ← ok_dec ⟨k, hk⟩]
theorem and46 {x : Int32} (hx : am_i2b x = x) : (x &&& 255 = 46) ↔ x = 46 := by
  obtain ⟨k, hk, e1, e2⟩ := byte_k hx
  have := d46_dec ⟨k, hk⟩
  rw [e1]
  conv => rhs; rw [e2]
  exact decide_eq_decide.mp this
section MD
variable {F r : Nat} {g : Gh} {σ : am_S} {t : List Int32}
theorem Ro_by (h : Ro g σ r t) : ∀ x ∈ t, am_i2b x = x := by
  obtain ⟨a, f, -, -, -, -, -, -, -, z, -⟩ := h
  exact z
theorem Md_in (x a b : Int32) : f_Md_in F σ x a b = some (bo (decide (¬ x < a) && decide (¬ b < x))) := by
  unfold f_Md_in
  by_cases h1 : x < a
  · rw [if_pos h1]; simp [h1]; rfl
  · rw [if_neg h1]
    by_cases h2 : b < x
    · rw [if_pos h2]; simp [h2]; rfl
    · rw [if_neg h2]; simp [h1, h2]; rfl
theorem Md_nameLoop {ns j : Nat} {kk : Option Int32} (h : Ro g σ r t) (hj : j ≤ t.length) : ∀ (m k : Nat), k ≤ j → (∀ i (hi : i < t.length), k ≤ i → i < j → t[i] ≠ 47) → j - k < m → f_Md_isName_l16 σ F r (nI j) kk m (nI k) = if (slB t k j).all okByte = true then kk else some 0 := by
  have hl := Ro_len h
  have hby := Ro_by h
  intro m
  induction m with
  | zero => intro k _ _ hm; omega
  | succ m ih =>
    intro k hk h47 hm
    rw [f_Md_isName_l16]
    by_cases c : j ≤ k
    · have e : k = j := by omega
      subst e
      rw [if_pos (nI_le c (by omega)), slB_nil]
      rfl
    · have hk' : k < t.length := by omega
      rw [if_neg (nI_ge (by omega) (by omega)), Ro_get h hk', Option.bind_some, Md_in, Option.bind_some, slB_cons (by omega) hj, List.all_cons]
      have hb := hby _ (List.getElem_mem hk')
      rw [ok_byte hb]
      simp only [bo_0]
      cases hc : (decide (¬ t[k] &&& 255 < 33) && decide (¬ 126 < t[k] &&& 255)) with
      | false => rw [if_pos rfl]; simp
      | true =>
        rw [if_neg (by decide), Option.bind_some, if_neg (by rw [and47 hb]; exact h47 k hk' (Nat.le_refl _) (by omega)), nI_1, ih (k + 1) (by omega) (fun i hi h1 h2 => h47 i hi (by omega) h2) (by omega), Bool.true_and]
theorem Md_name {ns j : Nat} (h : Ro g σ r t) (hns : ns ≤ j) (hj : j ≤ t.length) (h47 : ∀ i (hi : i < t.length), ns ≤ i → i < j → t[i] ≠ 47) (hF : 131072 < F) : f_Md_isName F σ r (nI ns) (nI j) = some (bo (okName (slB t ns j))) := by
  have hl := Ro_len h
  have hby := Ro_by h
  have e1 : (nI (j - ns) < 1) ↔ j - ns < 1 := nI_ltI (b := 1) (by omega) (by omega)
  have e2 : ((100 : Int32) < nI (j - ns)) ↔ 100 < j - ns := nI_ltI (a := 100) (by omega) (by omega)
  have e3 : (nI (j - ns) = 1) ↔ j - ns = 1 := nI_eq (b := 1) (by omega) (by omega)
  have e4 : (nI (j - ns) = 2) ↔ j - ns = 2 := nI_eq (b := 2) (by omega) (by omega)
  unfold f_Md_isName okName
  rw [nI_sub hns, Md_in, Option.bind_some, slB_len hj]
  simp only [e1, e2, bo_0]
  by_cases c1 : j - ns < 1
  · rw [if_pos (by simp [c1]), decide_eq_false (show ¬ 1 ≤ j - ns by omega)]; rfl
  · by_cases c2 : 100 < j - ns
    · rw [if_pos (by simp [c2]), decide_eq_false (show ¬ j - ns ≤ 100 by omega)]
      simp [bo]
    · rw [if_neg (by simp; omega), Md_nameLoop (ns := ns) h hj F ns hns h47 (by omega), decide_eq_true (show 1 ≤ j - ns by omega), decide_eq_true (show j - ns ≤ 100 by omega)]
      cases ha : (slB t ns j).all okByte with
      | false => rw [if_neg Bool.false_ne_true]; simp [bo]
      | true =>
        rw [if_pos rfl]
        unfold f_Md_isName_j54 f_Md_isName_j71 f_Md_isName_j100
        rw [nI_sub hns]
        simp only [e3, e4]
        have hn : ns < t.length := by omega
        have hb := hby _ (List.getElem_mem hn)
        by_cases c3 : j - ns = 1
        · have ej : j = ns + 1 := by omega
          subst ej
          have es : slB t ns (ns + 1) = [t[ns]] := by rw [slB_snoc (Nat.le_refl _) hn, slB_nil]; rfl
          rw [if_pos c3, Ro_get h hn, Option.bind_some, es]
          simp only [and46 hb]
          unfold dotsB
          by_cases c4 : t[ns] = 46
          · rw [if_pos c4, c4]; rfl
          · rw [if_neg c4, if_neg (by omega)]
            simp [c4, bo]
        · rw [if_neg c3]
          by_cases c5 : j - ns = 2
          · have ej : j = ns + 1 + 1 := by omega
            subst ej
            have hn2 : ns + 1 < t.length := by omega
            have hb2 := hby _ (List.getElem_mem hn2)
            have es : slB t ns (ns + 1 + 1) = [t[ns], t[ns + 1]] := by rw [slB_snoc (by omega) hn2, slB_snoc (Nat.le_refl _) hn, slB_nil]; rfl
            rw [if_pos c5, Ro_get h hn, Option.bind_some, es, nI_1, Ro_get h hn2]
            simp only [and46 hb, and46 hb2, Option.bind_some]
            unfold dotsB
            by_cases c4 : t[ns] = 46
            · rw [if_pos c4]
              by_cases c6 : t[ns + 1] = 46
              · rw [if_pos c6, c4, c6]; rfl
              · rw [if_neg c6]; simp [c6, bo]
            · rw [if_neg c4]; simp [c4, bo]
          · rw [if_neg c5]
            have : dotsB (slB t ns j) = false := by
              unfold dotsB
              have hl2 := slB_len (t := t) (i := ns) hj
              rw [decide_eq_false (fun z => by rw [z] at hl2; simp at hl2; omega), decide_eq_false (fun z => by rw [z] at hl2; simp at hl2; omega)]
              rfl
            rw [this]; rfl
theorem Md_pathLoop (h : Ro g σ r t) (hF : 131072 < F) : ∀ (m i ns c : Nat), ns ≤ i → i ≤ t.length → c ≤ i → (∀ k (hk : k < t.length), ns ≤ k → k < i → t[k] ≠ 47) → t.length - i + 1 < m → f_Md_isPath_l22 σ F r (fun y2 => f_Md_isPath_j75 σ F y2) m (nI ns) (nI c) (nI i) = some (bo (goP (t.drop i) (slB t ns i) c)) := by
  have hl := Ro_len h
  have hn := Ro_n h
  intro m
  induction m with
  | zero => intro i _ _ _ _ _ _ hm; omega
  | succ m ih =>
    intro i ns c h1 h2 hc h47 hm
    rw [f_Md_isPath_l22, hn, Option.bind_some, if_neg (nI_nlt h2 (by omega)), Option.bind_some]
    have hj : ∀ k : Int32 → Int32 → Int32 → Option Int32, f_Md_isPath_j51 σ F r (nI ns) (nI c) (nI i) k = if okName (slB t ns i) = true then k (nI (i + 1)) (nI (c + 1)) (nI (i + 1)) else some 0 := by
      intro k
      unfold f_Md_isPath_j51
      rw [Md_name h h1 h2 h47 hF, Option.bind_some, nI_1, nI_1]
      cases okName (slB t ns i) with
      | true => rw [if_neg (by decide), if_pos rfl]
      | false => rw [if_pos (by decide), if_neg (by decide)]
    by_cases ce : t.length ≤ i
    · have e : i = t.length := by omega
      rw [if_pos (nI_le ce (by omega)), hj, List.drop_of_length_le ce, goP]
      cases hk : okName (slB t ns i) with
      | false => rfl
      | true =>
        rw [if_pos rfl, Bool.true_and]
        obtain ⟨m', rfl⟩ : ∃ m', m = m' + 1 := ⟨m - 1, by omega⟩
        rw [f_Md_isPath_l22, hn, Option.bind_some, if_pos (nI_lt (by omega) (by omega))]
        unfold f_Md_isPath_j75
        have e2 : ((20 : Int32) < nI (c + 1)) ↔ 20 < c + 1 := nI_ltI (a := 20) (by omega) (by omega)
        by_cases h20 : c + 1 ≤ 20
        · rw [if_neg (fun z => by have := e2.mp z; omega), decide_eq_true h20]; rfl
        · rw [if_pos (e2.mpr (by omega)), decide_eq_false h20]; rfl
    · have hi : i < t.length := by omega
      have hb := Ro_by h _ (List.getElem_mem hi)
      rw [if_neg (nI_ge hi (by omega)), Ro_get h hi, Option.bind_some, List.drop_eq_getElem_cons hi, goP]
      simp only [and47 hb]
      by_cases c47 : t[i] = 47
      · rw [if_pos c47, if_pos c47, hj]
        cases hk : okName (slB t ns i) with
        | false => rfl
        | true =>
          rw [if_pos rfl, Bool.true_and, ih (i + 1) (i + 1) (c + 1) (by omega) (by omega) (by omega) (fun k hk h3 h4 => absurd h3 (by omega)) (by omega), slB_nil]
      · rw [if_neg c47, if_neg c47, nI_1, ih (i + 1) ns c (by omega) (by omega) (by omega) (fun k hk h3 h4 => by
          by_cases e : k = i
          · subst e; exact c47
          · exact h47 k hk h3 (by omega)) (by omega), slB_snoc h1 hi]
theorem Md_path (h : Ro g σ r t) (hF : 131072 < F) (hF2 : t.length + 2 < F) : f_Md_isPath F σ r = some (bo (okPath t)) := by
  have hl := Ro_len h
  have hn := Ro_n h
  have e1 : (nI t.length < 1) ↔ t.length < 1 := nI_ltI (b := 1) (by omega) (by omega)
  have e2 : ((255 : Int32) < nI t.length) ↔ 255 < t.length := nI_ltI (a := 255) (by omega) (by omega)
  unfold f_Md_isPath okPath
  rw [hn, Option.bind_some, Md_in, Option.bind_some]
  simp only [e1, e2, bo_0]
  by_cases c1 : t.length < 1
  · rw [if_pos (by rw [decide_eq_false (fun z => z c1)]; rfl), decide_eq_false (show ¬ 1 ≤ t.length by omega)]; rfl
  · by_cases c2 : 255 < t.length
    · rw [if_pos (by rw [decide_eq_false (show ¬ ¬ 255 < t.length from fun z => z c2), Bool.and_false]), decide_eq_false (show ¬ t.length ≤ 255 by omega)]
      simp [bo]
    · rw [if_neg (by rw [decide_eq_true c1, decide_eq_true c2]; decide), decide_eq_true (show 1 ≤ t.length by omega), decide_eq_true (show t.length ≤ 255 by omega)]
      have := Md_pathLoop (F := F) h hF F 0 0 0 (Nat.le_refl _) (Nat.zero_le _) (Nat.le_refl _) (fun k hk _ h4 => absurd h4 (by omega)) (by omega)
      rw [nI_0] at this
      rw [this, List.drop_zero, slB_nil]
      rfl
/-- a row is part of another -/
theorem Md_sameaLoop {r2 s : Nat} {u : List Int32} (h : Ro g σ r t) (h2 : Ro g σ r2 u) (hs : s + t.length ≤ u.length) : ∀ (m k : Nat), k ≤ t.length → t.length - k < m → f_Md_samea_l15 σ F r r2 (nI s) m (nI k) = some (bo (decide (t.drop k = slB u (s + k) (s + t.length)))) := by
  have hl := Ro_len h
  have hl2 := Ro_len h2
  have hn := Ro_n h
  obtain ⟨a, f, N, e1, e2, e3, e4, e5⟩ := Ro_at h
  obtain ⟨a', f', N', d1, d2, d3, d4, d5⟩ := Ro_at h2
  intro m
  induction m with
  | zero => intro k _ hm; omega
  | succ m ih =>
    intro k hk hm
    rw [f_Md_samea_l15, hn, Option.bind_some]
    by_cases c : t.length ≤ k
    · have e : k = t.length := by omega
      rw [if_pos (nI_le c (by omega)), List.drop_of_length_le c, e, slB_nil]
      rfl
    · have hk' : k < t.length := by omega
      rw [if_neg (nI_ge hk' (by omega)), e1, Option.bind_some, lI_of e2 (by omega) (by omega), Option.bind_some, d1, Option.bind_some, nI_add, lI_of d2 (by omega) (by omega), Option.bind_some, e5 k hk', d5 (s + k) (by omega), List.drop_eq_getElem_cons hk', slB_cons (by omega) hs]
      by_cases e : t[k] = u[s + k]
      · rw [if_pos e, nI_1, ih (k + 1) (by omega) (by omega), e]
        simp only [List.cons.injEq, true_and, Nat.add_assoc]
      · rw [if_neg e, decide_eq_false]
        · rfl
        · intro z
          exact e (List.cons.inj z).1
theorem Md_samea {r2 s e : Nat} {u : List Int32} (h : Ro g σ r t) (h2 : Ro g σ r2 u) (hs : s ≤ e) (he : e ≤ u.length) (hF : 131072 < F) : f_Md_samea F σ r r2 (nI s) (nI e) = some (bo (decide (t = slB u s e))) := by
  have hl := Ro_len h
  have hl2 := Ro_len h2
  have hn := Ro_n h
  unfold f_Md_samea
  rw [hn, Option.bind_some, nI_sub hs]
  simp only [nI_eq (show t.length < 2 ^ 31 by omega) (show e - s < 2 ^ 31 by omega)]
  by_cases c : t.length = e - s
  · have e0 : e = s + t.length := by omega
    rw [if_pos c, ← nI_0, Md_sameaLoop h h2 (by omega) F 0 (Nat.zero_le _) (by omega), List.drop_zero, Nat.add_zero, e0]
  · rw [if_neg c, decide_eq_false]
    · rfl
    · intro z
      have := congrArg List.length z
      rw [slB_len he] at this
      exact c this
end MD
