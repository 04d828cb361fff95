/-! ===== L3: the reference: finding a BLOB, building a MAP anew, FIT ===== -/
theorem slB_flat {B : List (List Int32)} {k : Nat} (hk : k < B.length) : slB B.flatten (sl (B.take k)) (sl (B.take (k + 1))) = B[k] := by
  have e0 : B.flatten = (B.take k).flatten ++ (B[k] ++ (B.drop (k + 1)).flatten) := by
    conv => lhs; rw [← List.take_append_drop k B]
    rw [List.flatten_append, List.drop_eq_getElem_cons hk, List.flatten_cons]
  have l1 := sl_flat (B.take k)
  unfold slB
  rw [e0, sl_take_succ hk, ← l1]
  exact mid_row _ _ _
section RB
variable {g : Gh} {σ : am_S} {F r : Nat} {th bm gv gm cm fm : Int32} {B : List (List Int32)} {t u : List Int32}
theorem Md_blobLoop (hc : Ce g σ 95 (MDC th (nI B.length) gv gm cm fm)) (hB : BLK g σ B) (h : Ro g σ r t) (hF : 131072 < F) : ∀ (m k : Nat), k ≤ B.length → B.length - k < m → f_Md_blobOf_l2 σ F 95 r m (nI k) = some (oI (((B.drop k).findIdx? fun e => decide (e = t)).map (k + ·))) := by
  have h1 := hc.1
  unfold MDC at h1
  obtain ⟨b1, b2, bf, b3, b4⟩ := hB
  intro m
  induction m with
  | zero => intro k _ hm; omega
  | succ m ih =>
    intro k hk hm
    rw [f_Md_blobOf_l2, gI_of h1 (by rfl), Option.bind_some]
    by_cases c : B.length ≤ k
    · rw [if_pos (nI_le c (by omega)), List.drop_of_length_le c]
      rfl
    · have hk' : k < B.length := by omega
      have hle := sl_take_le B (k + 1)
      have hsu := sl_take_succ hk'
      rw [if_neg (nI_ge hk' (by omega)), gA_of h1 (by rfl), Option.bind_some, gA_of h1 (by rfl), Option.bind_some, lI_of b3.1 (by omega) (by omega), Option.bind_some, Option.bind_some, nI_1, lI_of b3.1 (by omega) (by omega), Option.bind_some, b4 k (by omega), b4 (k + 1) (by omega), Md_samea h b1 (by omega) (by rw [sl_flat]; exact hle) hF, Option.bind_some, slB_flat hk']
      rw [List.drop_eq_getElem_cons hk', List.findIdx?_cons]
      simp only [bo_0]
      by_cases e : B[k] = t
      · rw [if_neg (by simp [e]), if_pos (by simp [e])]
        rfl
      · rw [if_pos (by simp only [decide_eq_false_iff_not]; exact fun z => e z.symm), if_neg (by simpa using e), ih (k + 1) (by omega) (by omega), Option.map_map]
        congr 3
        funext x
        simp only [Function.comp]
        omega
theorem Md_blobOf (hc : Ce g σ 95 (MDC th (nI B.length) gv gm cm fm)) (hB : BLK g σ B) (h : Ro g σ r t) (hF : 131072 < F) : f_Md_blobOf F σ 95 r = some (oI (bfnd B t)) := by
  have hl := hB.2.1
  have := Md_blobLoop (F := F) hc hB h hF F 0 (Nat.zero_le _) (by omega)
  have h1 := hc.1
  unfold MDC at h1
  unfold f_Md_blobOf
  rw [am_ck_of h1, ← nI_0, this]
  simp [bfnd]
/-- how many PATHS come before -/
def ple (Q : List Pe) (u : List Int32) : Nat := (Q.takeWhile fun e => decide (cmpV e.1 u < 0)).length
theorem ple_le (Q : List Pe) (u : List Int32) : ple Q u ≤ Q.length := (List.takeWhile_sublist _).length_le
theorem ple_drop {Q : List Pe} {u : List Int32} {k : Nat} (hk : k < Q.length) : ple (Q.drop k) u = if cmpV Q[k].1 u < 0 then ple (Q.drop (k + 1)) u + 1 else 0 := by
  unfold ple
  rw [List.drop_eq_getElem_cons hk, List.takeWhile_cons]
  split
  · rename_i z
    rw [if_pos (of_decide_eq_true z)]
    rfl
  · rename_i z
    rw [if_neg (fun y => z (decide_eq_true y))]
    rfl
variable {p : Nat} {Q : List Pe}
theorem Md_rb10 {kk : Int32 → am_S → Option am_S} (hu : isB u) (hp : p + 5 < 170) (hr : r < 170) (hlen : sl (pts Q) ≤ 8192) (hn : Q.length ≤ 400) (hF : 131072 < F) : ∀ (m k : Nat) (g : Gh) (σ : am_S), Ce g σ 95 (MDC th bm gv gm cm fm) → Ps g σ p Q → Ro g σ r u → Ps g σ 170 (Q.take k) → 95 < p → k + ple (Q.drop k) u ≤ Q.length → k ≤ Q.length → Q.length - k < m →
    ∃ g' σ', f_Md_rebuild_l10 F 95 p r kk m (nI k) σ = kk (nI (k + ple (Q.drop k) u)) σ' ∧ Ps g' σ' 170 (Q.take (k + ple (Q.drop k) u)) ∧ Fo (PsT 170) g σ g' σ' := by
  intro m
  induction m with
  | zero => intro k _ _ _ _ _ _ _ _ _ h; omega
  | succ m ih =>
    intro k g σ hc h h2 h3 hp95 hle hk hm
    have h1 := hc.1
    unfold MDC at h1
    rw [f_Md_rebuild_l10, Ps_n h, Option.bind_some]
    by_cases c : Q.length ≤ k
    · rw [if_pos (nI_le c (by omega)), List.drop_of_length_le c]
      have e : k + ple [] u = k := rfl
      rw [e]
      exact ⟨g, σ, rfl, h3, Fo.refl _ _ _⟩
    · have hk' : k < Q.length := by omega
      rw [if_neg (nI_ge hk' (by omega)), Ps_cmpb h h2 hu hk' hF, Option.bind_some, ple_drop hk']
      by_cases e : cmpV Q[k].1 u < 0
      · rw [if_neg (show ¬ (0 : Int32) ≤ _ from Int32.not_le.mpr e), if_pos e, gA_of h1 (by rfl), Option.bind_some]
        rw [ple_drop hk', if_pos e] at hle
        have hlk : (Q.take k).length = k := by simp; omega
        have hpt : sl (pts (Q.take k)) + Q[k].1.length ≤ 65536 := by
          have e : pts (Q.take k) = (pts Q).take k := by unfold pts; rw [List.map_take]
          have := pts_succ hk'
          have := sl_take_le (pts Q) (k + 1)
          rw [e]
          omega
        obtain ⟨g1, σ1, q1, q2, q3⟩ := Ps_take (F := F) h3 h (by omega) hk' (by rw [hlk]; omega) hpt hF
        rw [← List.take_succ_eq_append_getElem hk'] at q2
        obtain ⟨g', σ', i1, i2, i3⟩ := ih (k + 1) g1 σ1 (hc.fo q3 (by omega)) (h.fo q3 fun a _ _ => by omega) (h2.fo q3 (by omega)) q2 hp95 (by omega) (by omega) (by omega)
        rw [q1, Option.bind_some, nI_1]
        refine ⟨g', σ', ?_, ?_, q3.trans i3⟩
        · rw [i1, show k + 1 + ple (Q.drop (k + 1)) u = k + (ple (Q.drop (k + 1)) u + 1) by omega]
        · rw [show k + (ple (Q.drop (k + 1)) u + 1) = k + 1 + ple (Q.drop (k + 1)) u by omega]
          exact i2
      · rw [if_pos (show (0 : Int32) ≤ _ from Int32.not_lt.mp e), if_neg e, Nat.add_zero]
        exact ⟨g, σ, rfl, h3, Fo.refl _ _ _⟩
theorem Md_rb95 {X : List Pe} (hp : p + 5 < 170) (hlen : sl (pts X) + sl (pts Q) ≤ 20000) (hn : X.length + Q.length ≤ 1000) (hF : 131072 < F) : ∀ (m k : Nat) (g : Gh) (σ : am_S) (Y : List Pe), Ce g σ 95 (MDC th bm gv gm cm fm) → Ps g σ p Q → Ps g σ 170 Y → 95 < p → sl (pts Y) + sl (pts (Q.drop k)) ≤ 20000 → Y.length + (Q.length - k) ≤ 1000 → k ≤ Q.length → Q.length - k < m →
    ∃ g' σ', f_Md_rebuild_l95 F 95 p m (nI k) σ = some σ' ∧ Ps g' σ' 170 (Y ++ Q.drop k) ∧ Fo (PsT 170) g σ g' σ' := by
  intro m
  induction m with
  | zero => intro k _ _ _ _ _ _ _ _ _ _ h; omega
  | succ m ih =>
    intro k g σ Y hc h h3 hp95 hl hY hk hm
    have h1 := hc.1
    unfold MDC at h1
    have hQ := (Ps_ob h).2
    rw [f_Md_rebuild_l95, Ps_n h, Option.bind_some]
    by_cases c : Q.length ≤ k
    · rw [if_pos (nI_le c (by omega)), List.drop_of_length_le c, List.append_nil]
      exact ⟨g, σ, rfl, h3, Fo.refl _ _ _⟩
    · have hk' : k < Q.length := by omega
      have hd : Q.drop k = Q[k] :: Q.drop (k + 1) := List.drop_eq_getElem_cons hk'
      have hls : sl (pts (Q.drop k)) = Q[k].1.length + sl (pts (Q.drop (k + 1))) := by rw [hd]; exact sl_cons _ _
      obtain ⟨g1, σ1, q1, q2, q3⟩ := Ps_take (F := F) h3 h (by omega) hk' (by omega) (by omega) hF
      obtain ⟨g', σ', i1, i2, i3⟩ := ih (k + 1) g1 σ1 (Y ++ [Q[k]]) (hc.fo q3 (by omega)) (h.fo q3 fun a _ _ => by omega) q2 hp95 (by rw [pts_app, sl_app]; simp only [pts, List.map_cons, List.map_nil, sl_one] at *; omega) (by simp; omega) (by omega) (by omega)
      rw [if_neg (nI_ge hk' (by omega)), gA_of h1 (by rfl), Option.bind_some, q1, Option.bind_some, nI_1]
      refine ⟨g', σ', i1, ?_, q3.trans i3⟩
      rw [List.append_assoc, List.singleton_append, ← hd] at i2
      exact i2
def nwE (u : List Int32) : Option Int32 → List Pe
  | some v => [(u, (v, -1, -1), false)]
  | none => []
/-- all of it: v = none leaves the PATH out -/
def rbQ (Q : List Pe) (u : List Int32) (v : Option Int32) : List Pe := Q.take (ple Q u) ++ nwE u v ++ Q.drop (match Q[ple Q u]? with
  | some e => if e.1 = u then ple Q u + 1 else ple Q u
  | none => ple Q u)
theorem Md_rebuild {v : Option Int32} {v' : Int32} (hc : Ce g σ 95 (MDC th bm gv gm cm fm)) (h : Ps g σ p Q) (h2 : Ro g σ r u) (h3 : ∃ Y, Ps g σ 170 Y) (hu : isB u) (hul : u.length ≤ 255) (hp95 : 95 < p) (hp : p + 5 < 170) (hr : r < 170) (hlen : sl (pts Q) ≤ 8192) (hn : Q.length ≤ 400) (hv : match v with | some x => v' = x ∧ 0 ≤ x | none => v' < 0) (hF : 131072 < F) :
    ∃ g' σ', f_Md_rebuild F σ 95 p r v' = some σ' ∧ Ps g' σ' 170 (rbQ Q u v) ∧ Fo (PsT 170) g σ g' σ' := by
  have h1 := hc.1
  unfold MDC at h1
  obtain ⟨Y, h3⟩ := h3
  obtain ⟨σ1, a1, a2, a3⟩ := Ps_clear (F := F) h3
  have hple := ple_le Q u
  obtain ⟨g2, σ2, b1, b2, b3⟩ := Md_rb10 (F := F) (kk := fun y4 τ => f_Md_rebuild_j45 F 95 p r v' y4 τ) hu hp hr hlen hn hF F 0 g σ1 (hc.fo a3 (by omega)) (h.fo a3 fun a _ _ => by omega) (h2.fo a3 (by omega)) (by simpa using a2) hp95 (by simpa using hple) (Nat.zero_le _) (by omega)
  simp only [List.drop_zero, Nat.zero_add] at b1 b2
  have W2 := a3.trans b3
  have hc2 := hc.fo W2 (by omega)
  have hQ2 := h.fo W2 fun a _ _ => by omega
  have hR2 := h2.fo W2 (by omega)
  -- the PATH itself
  have mid : ∃ g3 σ3, f_Md_rebuild_j45 F 95 p r v' (nI (ple Q u)) σ2 = f_Md_rebuild_j73 F 95 p r (nI (ple Q u)) σ3 ∧ Ps g3 σ3 170 (Q.take (ple Q u) ++ nwE u v) ∧ Fo (PsT 170) g2 σ2 g3 σ3 := by
    unfold f_Md_rebuild_j45
    cases v with
    | none =>
      rw [if_pos hv]
      exact ⟨g2, σ2, rfl, by simpa [nwE] using b2, Fo.refl _ _ _⟩
    | some x =>
      obtain ⟨e, hx⟩ := hv
      subst e
      rw [if_neg (Int32.not_lt.mpr hx)]
      have k2 := hc2.1
      unfold MDC at k2
      have hlk : (Q.take (ple Q u)).length = ple Q u := by simp; omega
      have hpt : sl (pts (Q.take (ple Q u))) ≤ sl (pts Q) := by
        have e : pts (Q.take (ple Q u)) = (pts Q).take (ple Q u) := by unfold pts; rw [List.map_take]
        rw [e]; exact sl_take_le _ _
      obtain ⟨g3, σ3, c1, c2, c3⟩ := Ps_add (F := F) (i := 0) (j := u.length) b2 hR2 (by omega) (Nat.zero_le _) (Nat.le_refl _) (by rw [hlk]; omega) (by omega) hF
      rw [List.take_length, List.drop_zero] at c2
      have hl3 : (Q.take (ple Q u)).length < (Q.take (ple Q u) ++ [(u, ((-1 : Int32), (-1 : Int32), (-1 : Int32)), false)]).length := by simp
      obtain ⟨-, σ4, d1, d2, d3⟩ := Ps_setV (c := 0) (v := v') c2 hl3 (by omega)
      have hget : (Q.take (ple Q u) ++ [(u, ((-1 : Int32), (-1 : Int32), (-1 : Int32)), false)])[(Q.take (ple Q u)).length] = (u, ((-1 : Int32), (-1 : Int32), (-1 : Int32)), false) := by
        rw [List.getElem_append_right (Nat.le_refl _)]
        simp
      have hset : (Q.take (ple Q u) ++ [(u, ((-1 : Int32), (-1 : Int32), (-1 : Int32)), false)]).set (Q.take (ple Q u)).length (u, (v', (-1 : Int32), (-1 : Int32)), false) = Q.take (ple Q u) ++ [(u, (v', (-1 : Int32), (-1 : Int32)), false)] := by
        rw [List.set_append_right _ _ (Nat.le_refl _), Nat.sub_self, List.set_cons_zero]
      rw [hget] at d2
      have hsv : setV (u, ((-1 : Int32), (-1 : Int32), (-1 : Int32)), false) 0 v' = (u, (v', -1, -1), false) := by simp [setV]
      rw [hsv, hset] at d2
      refine ⟨g3, σ4, ?_, d2, c3.trans (d3.mono fun a ha => by omega)⟩
      have d1' : am_sI σ3 174 (nI (3 * (Q.take (ple Q u)).length)) v' = some σ4 := d1
      rw [nI_0] at c1
      have g4 : am_gA σ2 11 2 170 = some 174 := gA_of (Ps_ob b2).1 rfl
      rw [gA_of k2 (by rfl), Option.bind_some, g4, Option.bind_some, Option.bind_some, Ro_n hR2, Option.bind_some, c1]
      simp only [am_b2, Option.bind_some]
      have e3 : 3 * nI (Q.take (ple Q u)).length = nI (3 * (Q.take (ple Q u)).length) := nI_mul 3 _
      rw [e3, d1', Option.bind_some]
  obtain ⟨g3, σ3, c1, c2, c3⟩ := mid
  have hc3 := hc2.fo c3 (by omega)
  have hQ3 := hQ2.fo c3 fun a _ _ => by omega
  have hR3 := hR2.fo c3 (by omega)
  generalize hX : Q.take (ple Q u) ++ nwE u v = X at *
  have hXl : X.length ≤ Q.length + 1 := by
    rw [← hX]
    cases v <;> simp [nwE] <;> omega
  have hXs : sl (pts X) ≤ sl (pts Q) + 255 := by
    have e : pts (Q.take (ple Q u)) = (pts Q).take (ple Q u) := by unfold pts; rw [List.map_take]
    have := sl_take_le (pts Q) (ple Q u)
    rw [← hX, pts_app, sl_app, e]
    cases v with
    | none =>
      have e0 : sl (pts (nwE u none)) = 0 := rfl
      rw [e0]; omega
    | some x =>
      have : sl (pts (nwE u (some x))) = u.length := by simp [pts, sl, nwE]
      rw [this]
      omega
  have drops : ∀ k, sl (pts (Q.drop k)) ≤ sl (pts Q) := fun k => by
    have e : pts (Q.drop k) = (pts Q).drop k := by unfold pts; rw [List.map_drop]
    have := sl_split (pts Q) k
    rw [e]; omega
  have rest : ∀ k, k ≤ Q.length → ∃ g' σ', f_Md_rebuild_l95 F 95 p F (nI k) σ3 = some σ' ∧ Ps g' σ' 170 (X ++ Q.drop k) ∧ Fo (PsT 170) g3 σ3 g' σ' := fun k hk => by
    have := drops k
    exact Md_rb95 (F := F) (X := X) hp (by omega) (by omega) hF F k g3 σ3 X hc3 hQ3 c2 hp95 (by omega) (by omega) hk (by omega)
  have fin : ∃ g' σ', f_Md_rebuild_j73 F 95 p r (nI (ple Q u)) σ3 = some σ' ∧ Ps g' σ' 170 (rbQ Q u v) ∧ Fo (PsT 170) g3 σ3 g' σ' := by
    unfold f_Md_rebuild_j73 rbQ
    rw [hX, Ps_n hQ3, Option.bind_some]
    by_cases c : Q.length ≤ ple Q u
    · rw [if_pos (nI_le c (by omega)), List.getElem?_eq_none c]
      exact rest _ hple
    · have hk' : ple Q u < Q.length := by omega
      rw [if_neg (nI_ge hk' (by omega)), Ps_cmpb hQ3 hR3 hu hk' hF, Option.bind_some, List.getElem?_eq_getElem hk']
      simp only [cmp0 (Ps_isB hQ3 hk') hu]
      by_cases e : Q[ple Q u].1 = u
      · rw [if_pos e, if_pos e, nI_1]
        exact rest _ (by omega)
      · rw [if_neg e, if_neg e]
        exact rest _ hple
  obtain ⟨g4, σ4, f1, f2, f3⟩ := fin
  refine ⟨g4, σ4, ?_, f2, W2.trans (c3.trans f3)⟩
  unfold f_Md_rebuild
  rw [am_ck_of h1, gA_of h1 (by rfl), Option.bind_some, a1, Option.bind_some, ← nI_0, b1, c1, f1]
end RB
theorem mpE_len (P : PL) : (mpE P).length = P.length := by simp [mpE]
theorem mpE_get {P : PL} {k : Nat} (h : k < P.length) : (mpE P)[k]'(by rw [mpE_len]; exact h) = (P[k].1, (P[k].2, -1, -1), false) := by simp [mpE]
theorem pts_mpE (P : PL) : pts (mpE P) = P.map Prod.fst := by simp [pts, mpE]
theorem sl_mpE (P : PL) : sl (pts (mpE P)) = pl P := by rw [pts_mpE]; rfl
theorem ple_mpE (P : PL) (u : List Int32) : ple (mpE P) u = plc P u := by
  unfold ple plc mpE
  induction P with
  | nil => rfl
  | cons e P ih =>
    rw [List.map_cons, List.takeWhile_cons, List.takeWhile_cons]
    by_cases c : cmpV e.1 u < 0
    · simp only [c, decide_true, if_true, List.length_cons, ih]
    · simp [c]
theorem pfd_mpE (P : PL) (u : List Int32) : pfd (mpE P) u = fnd P u := by
  unfold pfd fnd mpE
  induction P with
  | nil => rfl
  | cons e P ih => rw [List.map_cons, List.findIdx?_cons, List.findIdx?_cons, ih]
theorem mpE_asg {P : PL} (hs : Srt P) {u : List Int32} (hu : isB u) (v : Int32) : rbQ (mpE P) u (some v) = mpE (asgP P u v) := by
  unfold rbQ asgP nwE
  rw [ple_mpE]
  have hple := plc_le P u
  cases hf : fnd P u with
  | some i =>
    obtain ⟨e1, e2, e3⟩ := fnd_plc hs hu hf
    subst e1
    have hq : (mpE P)[plc P u]? = some (u, (P[plc P u].2, -1, -1), false) := by
      rw [List.getElem?_eq_getElem (by rw [mpE_len]; exact e2), mpE_get e2, e3]
    rw [hq]
    simp only [if_true]
    rw [List.set_eq_take_append_cons_drop, if_pos e2]
    simp only [mpE, List.map_append, List.map_take, List.map_drop, List.map_cons, List.append_assoc, List.singleton_append]
  | none =>
    have hd : (match (mpE P)[plc P u]? with | some e => if e.1 = u then plc P u + 1 else plc P u | none => plc P u) = plc P u := by
      cases hq : (mpE P)[plc P u]? with
      | none => rfl
      | some e =>
        obtain ⟨h1, h2⟩ := List.getElem?_eq_some_iff.mp hq
        rw [mpE_len] at h1
        rw [mpE_get h1] at h2
        simp only
        rw [if_neg]
        rw [← h2]
        exact fnd_no hf h1
    rw [hd]
    unfold insP
    simp only [mpE, List.map_append, List.map_take, List.map_drop, List.map_cons, List.append_assoc, List.singleton_append]
theorem mpE_del {P : PL} (hs : Srt P) {u : List Int32} (hu : isB u) {i : Nat} (hf : fnd P u = some i) : rbQ (mpE P) u none = mpE (delP P i) := by
  unfold rbQ delP nwE
  rw [ple_mpE]
  obtain ⟨e1, e2, e3⟩ := fnd_plc hs hu hf
  subst e1
  have hq : (mpE P)[plc P u]? = some (u, (P[plc P u].2, -1, -1), false) := by
    rw [List.getElem?_eq_getElem (by rw [mpE_len]; exact e2), mpE_get e2, e3]
  rw [hq]
  simp only [if_true, List.append_nil]
  simp only [mpE, List.map_append, List.map_take, List.map_drop]
theorem unB_iff {p q : List Int32} : unB p q = true ↔ p = q ∨ ben q p = true := by
  unfold unB ben
  simp only [decide_eq_true_eq]
  constructor
  · rintro ⟨h1, h2, h3 | h3⟩
    · left
      rw [← h3, List.take_length] at h2
      exact h2
    · by_cases e : p.length = q.length
      · left
        rw [← e, List.take_length] at h2
        exact h2
      · exact Or.inr ⟨by omega, h2, h3⟩
  · rintro (h | ⟨h1, h2, h3⟩)
    · subst h
      exact ⟨Nat.le_refl _, List.take_length, Or.inl rfl⟩
    · exact ⟨by omega, h2, Or.inr h3⟩
theorem fiB_iff {Q : List Pe} : fiB Q = true ↔ Q.length ≤ 400 ∧ sl (pts Q) ≤ 8192 ∧ ∀ i j (hi : i < Q.length) (hj : j < Q.length), i ≠ j → unB Q[i].1 Q[j].1 = false := by
  unfold fiB fiA fiR
  simp only [Bool.and_eq_true, decide_eq_true_eq, List.all_eq_true, Bool.or_eq_true, Bool.not_eq_true', and_assoc]
  constructor
  · rintro ⟨h1, h2, h3⟩
    refine ⟨h1, h2, fun i j hi hj hij => ?_⟩
    have := h3 i (mem_range'.mpr ⟨by omega, by omega⟩) j (mem_range'.mpr ⟨by omega, by omega⟩)
    rcases this with z | z
    · exact absurd z hij
    · rw [pts_bang hi, pts_bang hj] at z
      exact z
  · rintro ⟨h1, h2, h3⟩
    refine ⟨h1, h2, fun i hi j hj => ?_⟩
    have hi' := mem_range'.mp hi
    have hj' := mem_range'.mp hj
    by_cases e : i = j
    · exact Or.inl e
    · refine Or.inr ?_
      rw [pts_bang (show i < Q.length by omega), pts_bang (show j < Q.length by omega)]
      exact h3 i j _ _ e
theorem nbn_fit {P : PL} (hs : Srt P) (hl : P.length ≤ 400) (hp : pl P ≤ 8192) : fiB (mpE P) = true ↔ nbn P := by
  rw [fiB_iff]
  constructor
  · rintro ⟨-, -, h⟩ i j hi hj
    by_cases e : i = j
    · subst e
      unfold ben
      simp
    · have := h j i (by rw [mpE_len]; exact hj) (by rw [mpE_len]; exact hi) (Ne.symm e)
      rw [mpE_get hi, mpE_get hj] at this
      cases hb : ben P[i].1 P[j].1 with
      | false => rfl
      | true => rw [unB_iff.mpr (Or.inr hb)] at this; cases this
  · intro h
    refine ⟨by rw [mpE_len]; exact hl, by rw [sl_mpE]; exact hp, fun i j hi hj hij => ?_⟩
    rw [mpE_len] at hi hj
    rw [mpE_get hi, mpE_get hj]
    cases hb : unB P[i].1 P[j].1 with
    | false => rfl
    | true =>
      rcases unB_iff.mp hb with z | z
      · exfalso
        have b1 := hs.1 i hi
        rcases Nat.lt_or_gt_of_ne hij with y | y
        · have := hs.2 i j hi hj y
          rw [z] at this
          exact ltP_irr (hs.1 j hj) this
        · have := hs.2 j i hj hi y
          rw [z] at this
          exact ltP_irr (hs.1 j hj) this
      · rw [h j i hj hi] at z
        cases z
theorem asg_len {P : PL} {u : List Int32} {v : Int32} : (asgP P u v).length = if (fnd P u).isSome then P.length else P.length + 1 := by
  unfold asgP
  cases hf : fnd P u with
  | some i => simp
  | none => simp [insP_len (plc_le _ _)]
theorem asg_pl {P : PL} (hs : Srt P) {u : List Int32} (hu : isB u) {v : Int32} : pl (asgP P u v) = if (fnd P u).isSome then pl P else pl P + u.length := by
  unfold asgP
  cases hf : fnd P u with
  | some i =>
    obtain ⟨e1, e2, e3⟩ := fnd_plc hs hu hf
    simp only [Option.isSome_some, if_true]
    unfold pl
    congr 1
    rw [List.map_set]
    apply List.ext_getElem?
    intro j
    by_cases e : j = i
    · subst e
      rw [List.getElem?_set_self (by simpa using e2)]
      simp [e2, e3]
    · rw [List.getElem?_set_ne (Ne.symm e)]
  | none => simp [insP_pl (plc_le _ _)]
/-- FIT in one go and step by step -/
theorem fit_asg {P : PL} (hs : Srt P) (hl : P.length ≤ 400) (hp : pl P ≤ 8192) (hn : nbn P) {u : List Int32} (hu : isB u) (v : Int32) : fiB (mpE (asgP P u v)) = ((fnd P u).isSome || room P u) := by
  have hs2 := hs.asg hu v
  cases hf : fnd P u with
  | some i =>
    obtain ⟨e1, e2, e3⟩ := fnd_plc hs hu hf
    simp only [Option.isSome_some, Bool.true_or]
    rw [nbn_fit hs2 (by rw [asg_len, hf]; simpa using hl) (by rw [asg_pl hs hu, hf]; simpa using hp)]
    have eq : ∀ k (hk : k < (asgP P u v).length), (asgP P u v)[k].1 = (P[k]'(by rw [asg_len, hf] at hk; simpa using hk)).1 := by
      intro k hk
      unfold asgP
      simp only [hf]
      rw [List.getElem_set]
      split
      · rename_i z; subst z; exact e3.symm
      · rfl
    intro a b ha hb
    rw [eq a ha, eq b hb]
    exact hn _ _ _ _
  | none =>
    simp only [Option.isSome_none, Bool.false_or]
    have L1 : (mpE (asgP P u v)).length = P.length + 1 := by rw [mpE_len, asg_len, hf]; simp
    have L2 : sl (pts (mpE (asgP P u v))) = pl P + u.length := by rw [sl_mpE, asg_pl hs hu, hf]; simp
    rw [Bool.eq_iff_iff, fiB_iff]
    unfold room
    simp only [Option.isSome_none, Bool.false_eq_true, if_false, Bool.and_eq_true, decide_eq_true_eq, List.all_eq_true, Bool.not_eq_true', Bool.or_eq_false_iff, and_assoc]
    have hA : asgP P u v = insP P (plc P u) (u, v) := by unfold asgP; rw [hf]
    have hlen : (asgP P u v).length = P.length + 1 := by rw [asg_len, hf]; simp
    have hmem : ∀ k (hk : k < (asgP P u v).length), (asgP P u v)[k] = (u, v) ∨ (asgP P u v)[k] ∈ P := fun k hk => by
      have : (asgP P u v)[k] ∈ insP P (plc P u) (u, v) := by rw [← hA]; exact List.getElem_mem hk
      exact insP_mem.mp this
    constructor
    · rintro ⟨h1, h2, h3⟩
      refine ⟨by omega, by omega, fun e he => ?_⟩
      obtain ⟨i, hi, ei⟩ := List.mem_iff_getElem.mp (show (u, v) ∈ asgP P u v by rw [hA]; exact insP_mem.mpr (Or.inl rfl))
      obtain ⟨j, hj, ej⟩ := List.mem_iff_getElem.mp (show e ∈ asgP P u v by rw [hA]; exact insP_mem.mpr (Or.inr he))
      obtain ⟨q, hq, eq⟩ := List.mem_iff_getElem.mp he
      have hij : i ≠ j := fun z => by
        subst z
        rw [ei] at ej
        have := fnd_no hf hq
        rw [eq, ← ej] at this
        exact this rfl
      have u1 := h3 i j (by rw [mpE_len]; exact hi) (by rw [mpE_len]; exact hj) hij
      have u2 := h3 j i (by rw [mpE_len]; exact hj) (by rw [mpE_len]; exact hi) (Ne.symm hij)
      rw [mpE_get hi, mpE_get hj, ei, ej] at u1
      rw [mpE_get hi, mpE_get hj, ei, ej] at u2
      simp only at u1 u2
      constructor
      · cases hb : ben e.1 u with
        | false => rfl
        | true => rw [unB_iff.mpr (Or.inr hb)] at u1; cases u1
      · cases hb : ben u e.1 with
        | false => rfl
        | true => rw [unB_iff.mpr (Or.inr hb)] at u2; cases u2
    · rintro ⟨h1, h2, h3⟩
      refine ⟨by omega, by omega, fun i j hi hj hij => ?_⟩
      rw [mpE_len] at hi hj
      rw [mpE_get hi, mpE_get hj]
      have hne : (asgP P u v)[i].1 ≠ (asgP P u v)[j].1 := fun z => by
        rcases Nat.lt_or_gt_of_ne hij with y | y
        · have := hs2.2 i j hi hj y
          rw [z] at this
          exact ltP_irr (hs2.1 j hj) this
        · have := hs2.2 j i hj hi y
          rw [z] at this
          exact ltP_irr (hs2.1 j hj) this
      cases hb : unB (asgP P u v)[i].1 (asgP P u v)[j].1 with
      | false => rfl
      | true =>
        rcases unB_iff.mp hb with z | z
        · exact absurd z hne
        · exfalso
          rcases hmem i hi with a | a
          · rcases hmem j hj with b | b
            · exact hne (by rw [a, b])
            · rw [a] at z
              rw [(h3 _ b).1] at z
              cases z
          · rcases hmem j hj with b | b
            · rw [b] at z
              rw [(h3 _ a).2] at z
              cases z
            · obtain ⟨x, hx, ex⟩ := List.mem_iff_getElem.mp a
              obtain ⟨y, hy, ey⟩ := List.mem_iff_getElem.mp b
              rw [← ex, ← ey, hn y x hy hx] at z
              cases z
