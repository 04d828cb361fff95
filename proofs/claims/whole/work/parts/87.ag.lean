/-! ===== L3: Merging: a group's record ===== -/
section AG
variable {o p0 p1 p2 bl n lt sp F : Nat} {B : List (List Int32)} {P0 P1 P2 Pl : PL} {L : List Rc} {σ : am_S}
theorem Mg_isPath {px : Nat} {P : PL} {p i : Option Nat} (h0 : MgC σ o p0 p1 p2 bl n lt sp) (hP0 : Pm σ p0 P0) (hP : Pm σ px P) (s0 : Srt P0) (s : Srt P) (hF : 8192 < F) (hp : ∀ k, p = some k → k < P0.length) (hi : ∀ k, i = some k → k < P.length) : f_Mg_isPathOfBase F σ o (oI p) px (oI i) = some (bo (stay P0 P p i)) := by
  have l0 := hP0.lt
  have l1 := hP.lt
  unfold MgC at h0
  unfold f_Mg_isPathOfBase
  rw [am_ck_of h0]
  cases p with
  | none => rw [if_pos (show oI none < 0 by decide)]; rfl
  | some p =>
    have hp' := hp p rfl
    rw [if_neg (show ¬ oI (some p) < 0 from nI_pos (by omega))]
    cases i with
    | none => rw [if_pos (show oI none < 0 by decide)]; rfl
    | some i =>
      have hi' := hi i rfl
      rw [if_neg (show ¬ oI (some i) < 0 from nI_pos (by omega))]
      rw [gA_of h0 (by rfl), Option.bind_some, oI_some, oI_some, Pm_cmpPaths hP0 hP hp' hi' hF, Option.bind_some]
      simp only [cmp0 (s0.1 _ hp') (s.1 _ hi'), stay, pth_of hp', pth_of hi']
      by_cases e : P0[p].1 = P[i].1
      · rw [if_pos e, decide_eq_true e]; rfl
      · rw [if_neg e, decide_eq_false e]; rfl
theorem Mg_j237 {p : Option Nat} {s0 s1 s2 : Int32} {x7 x8 x11 x12 : Bool} {a b c : Int32} (h8 : 8 ≤ sp) (ho : MgC σ o p0 p1 p2 bl n lt sp) (hOo : ¬ OcS sp o) (h : Oc σ sp bl Pl (L ++ [(false, a, b, c, none)])) (hp : ∀ k, p = some k → k < 400) :
    ∃ σ', f_Mg_addGroup_j237 F o (oI p) s0 s1 s2 (bo x7) (bo x8) (bo x11) (bo x12) (nI L.length) σ = some (1, σ') ∧ Oc σ' sp bl Pl (L ++ [(if x11 = true then x12 && !x7 && !x8 else p.isSome, s0, s1, s2, none)]) ∧ Fr (OcS sp) σ σ' := by
  have hl := h.len
  rw [List.length_append, List.length_singleton] at hl
  have hlt : L.length < (L ++ [((false, a, b, c, none) : Rc)]).length := by simp
  obtain ⟨σ1, q1, q2, q3⟩ := Oc_setSources (F := F) h h8 hlt s0 s1 s2
  have e1 : (L ++ [((false, a, b, c, none) : Rc)])[L.length] = (false, a, b, c, none) := by simp
  rw [e1] at q2
  have e2 : ∀ x y : Rc, (L ++ [x]).set L.length y = L ++ [y] := fun x y => by simp
  rw [e2] at q2
  have ho1 := ho
  unfold MgC at ho
  have hlt1 : L.length < (L ++ [((false, s0, s1, s2, none) : Rc)]).length := by simp
  have un : ∃ σ', f_Mg_addGroup_j288 F o (nI L.length) σ1 = some (1, σ') ∧ Oc σ' sp bl Pl (L ++ [(true, s0, s1, s2, none)]) ∧ Fr (OcS sp) σ σ' := by
    obtain ⟨σ2, t1, t2, t3⟩ := Oc_setU (F := F) q2 h8 hlt1
    have e3 : (L ++ [((false, s0, s1, s2, none) : Rc)])[L.length] = (false, s0, s1, s2, none) := by simp
    rw [e3, e2] at t2
    unfold f_Mg_addGroup_j288
    rw [gA_of (q3.at hOo ho) (by rfl), Option.bind_some, t1]
    exact ⟨σ2, rfl, t2, q3.trans t3⟩
  unfold f_Mg_addGroup_j237
  rw [if_pos (nI_pos' (by omega)), gA_of ho (by rfl), Option.bind_some, q1, Option.bind_some]
  cases x11 with
  | false =>
    rw [if_pos (show bo false = 0 by decide), if_neg Bool.false_ne_true]
    cases p with
    | none =>
      rw [if_pos (show oI none < 0 by decide)]
      exact ⟨σ1, rfl, q2, q3⟩
    | some k =>
      have := hp k rfl
      rw [if_neg (show ¬ oI (some k) < 0 from nI_pos (by omega))]
      exact un
  | true =>
    rw [if_neg (show ¬ bo true = 0 by decide), if_pos rfl]
    cases x12 with
    | false =>
      rw [if_pos (show bo false = 0 by decide)]
      exact ⟨σ1, rfl, q2, q3⟩
    | true =>
      rw [if_neg (show ¬ bo true = 0 by decide)]
      cases x7 with
      | true =>
        rw [if_neg (show ¬ bo true = 0 by decide)]
        exact ⟨σ1, rfl, q2, q3⟩
      | false =>
        rw [if_pos (show bo false = 0 by decide)]
        cases x8 with
        | true =>
          rw [if_neg (show ¬ bo true = 0 by decide)]
          exact ⟨σ1, rfl, q2, q3⟩
        | false =>
          rw [if_pos (show bo false = 0 by decide)]
          exact un
/-- what adding a record must give -/
def AgR (E : Option (Int32 × am_S)) (σ : am_S) (sp bl : Nat) (Pl : PL) (L : List Rc) (q : List Int32) (r : Rc) : Prop :=
  if adb Pl q = true then ∃ σ', E = some (1, σ') ∧ Oc σ' sp bl (asgP Pl q (nI L.length)) (L ++ [r]) ∧ Fr (OcS sp) σ σ' else ∃ σ', E = some (0, σ') ∧ Oc σ' sp bl Pl L ∧ Fr (OcS sp) σ σ'
theorem Mg_j203 {p a b : Option Nat} {s0 s1 s2 : Int32} {x7 x8 x11 x12 at_ : Bool} {q : List Int32} (h8 : 8 ≤ sp) (ho : MgC σ o p0 p1 p2 bl n lt sp) (hOo : ¬ OcS sp o) (hp : ∀ k, p = some k → k < 400) (h : Oc σ sp bl Pl L) (hs : Srt Pl) (hP1 : Pm σ p1 P1) (hP2 : Pm σ p2 P2) (t1 : Srt P1) (t2 : Srt P2) (hd1 : p1 + 4 ≤ sp) (hd2 : p2 + 4 ≤ sp) (hF : 8192 < F)
    (hq : if at_ = true then ∃ k, b = some k ∧ k < P2.length ∧ pth P2 k = q else ∃ k, a = some k ∧ k < P1.length ∧ pth P1 k = q) :
    AgR (f_Mg_addGroup_j203 F o (oI p) (oI a) (oI b) s0 s1 s2 (bo x7) (bo x8) (bo x11) (bo x12) (bo at_) σ) σ sp bl Pl L q (if x11 = true then x12 && !x7 && !x8 else p.isSome, s0, s1, s2, none) := by
  have ho' := ho
  unfold MgC at ho
  have g14 : am_gA σ 6 14 o = some sp := gA_of ho rfl
  have g1 : am_gA σ 6 1 o = some p1 := gA_of ho rfl
  have g2 : am_gA σ 6 2 o = some p2 := gA_of ho rfl
  unfold f_Mg_addGroup_j203 AgR adb
  have fin : ∀ (px k : Nat) (P : PL), Pm σ px P → Srt P → px + 4 ≤ sp → (hk : k < P.length) → pth P k = q → if (!(fnd Pl q).isSome && room Pl q) = true then ∃ σ', (am_b2 (f_Oc_open F σ sp px (nI k)) fun v21 σ22 => f_Mg_addGroup_j237 F o (oI p) s0 s1 s2 (bo x7) (bo x8) (bo x11) (bo x12) v21 σ22) = some (1, σ') ∧ Oc σ' sp bl (asgP Pl q (nI L.length)) (L ++ [(if x11 = true then x12 && !x7 && !x8 else p.isSome, s0, s1, s2, none)]) ∧ Fr (OcS sp) σ σ' else ∃ σ', (am_b2 (f_Oc_open F σ sp px (nI k)) fun v21 σ22 => f_Mg_addGroup_j237 F o (oI p) s0 s1 s2 (bo x7) (bo x8) (bo x11) (bo x12) v21 σ22) = some (0, σ') ∧ Oc σ' sp bl Pl L ∧ Fr (OcS sp) σ σ' := by
    intro px k P hP tP hd hk hq
    rw [pth_of hk] at hq
    have hop := Oc_open (F := F) h h8 hs hP tP hk (Or.inr hd) hF
    rw [hq] at hop
    split
    · rename_i hc
      rw [if_pos hc] at hop
      obtain ⟨σ1, y0, y1, y2, e1, e2, e3⟩ := hop
      obtain ⟨σ2, f1, f2, f3⟩ := Mg_j237 (F := F) (p := p) (s0 := s0) (s1 := s1) (s2 := s2) (x7 := x7) (x8 := x8) (x11 := x11) (x12 := x12) h8 (show MgC σ1 o p0 p1 p2 bl n lt sp from e3.at hOo ho') hOo e2 hp
      rw [e1]
      simp only [am_b2, Option.bind_some]
      exact ⟨σ2, f1, f2, e3.trans f3⟩
    · rename_i hc
      rw [if_neg hc] at hop
      obtain ⟨σ1, e1, e2, e3⟩ := hop
      rw [e1]
      simp only [am_b2, Option.bind_some]
      refine ⟨σ1, ?_, e2, e3⟩
      unfold f_Mg_addGroup_j237
      rw [if_neg (by decide)]
  cases at_ with
  | false =>
    obtain ⟨k, e, hk, hq⟩ := hq
    subst e
    simp only [show (bo false = 0) = True from eq_true (by decide), if_true, g14, g1, Option.bind_some, oI_some]
    exact fin p1 k P1 hP1 t1 hd1 hk hq
  | true =>
    obtain ⟨k, e, hk, hq⟩ := hq
    subst e
    simp only [show (bo true = 0) = False from eq_false (by decide), if_false, g14, g2, Option.bind_some, oI_some]
    exact fin p2 k P2 hP2 t2 hd2 hk hq
theorem bt_0 : (bo true = 0) = False := eq_false (by decide)
theorem bf_0 : (bo false = 0) = True := eq_true (by decide)
theorem oI_n0 : (oI none < 0) = True := eq_true (by decide)
theorem oI_n1 : ((0 : Int32) ≤ oI none) = False := eq_false (by decide)
theorem Mg_ag1 {p a b : Option Nat} (ho : MgC σ o p0 p1 p2 bl n lt sp) (hP0 : Pm σ p0 P0) (hP1 : Pm σ p1 P1) (hP2 : Pm σ p2 P2) (v0 : VB B P0) (v1 : VB B P1) (v2 : VB B P2) (hg : gOK P0 P1 P2 (p, a, b)) :
    f_Mg_addGroup F σ o (oI p) (oI a) (oI b) = f_Mg_addGroup_j52 F o (oI p) (oI a) (oI b) (oI (p.map (valN P0))) (oI (a.map (valN P1))) (oI (b.map (valN P2))) σ := by
  have l0 := hP0.lt
  have l1 := hP1.lt
  have l2 := hP2.lt
  unfold MgC at ho
  have g0 : am_gA σ 6 0 o = some p0 := gA_of ho rfl
  have g1 : am_gA σ 6 1 o = some p1 := gA_of ho rfl
  have g2 : am_gA σ 6 2 o = some p2 := gA_of ho rfl
  obtain ⟨hp, ha, hb⟩ := hg
  have val : ∀ (px : Nat) (P : PL), Pm σ px P → VB B P → P.length ≤ 400 → ∀ k, k < P.length → ((0 : Int32) ≤ nI k) ∧ f_Pm_valueAt F σ px (nI k) = some (nI (valN P k)) := by
    intro px P hP hv hl k hk
    refine ⟨nI_pos' (by omega), ?_⟩
    rw [Pm_value hP hk, ← valI_of hk, (hv k hk).2]
  have st0 : f_Mg_addGroup F σ o (oI p) (oI a) (oI b) = f_Mg_addGroup_j16 F o (oI p) (oI a) (oI b) (oI (p.map (valN P0))) σ := by
    unfold f_Mg_addGroup
    rw [am_ck_of ho]
    cases p with
    | none => simp only [oI_n1, if_false]; rfl
    | some k =>
      obtain ⟨e1, e2⟩ := val p0 P0 hP0 v0 l0 k (hp k rfl)
      simp only [oI_some, e1, if_true, g0, Option.bind_some, e2, Option.map_some]
  have st1 : ∀ x, f_Mg_addGroup_j16 F o (oI p) (oI a) (oI b) x σ = f_Mg_addGroup_j34 F o (oI p) (oI a) (oI b) x (oI (a.map (valN P1))) σ := by
    intro x
    unfold f_Mg_addGroup_j16
    cases a with
    | none => simp only [oI_n1, if_false]; rfl
    | some k =>
      obtain ⟨e1, e2⟩ := val p1 P1 hP1 v1 l1 k (ha k rfl)
      simp only [oI_some, e1, if_true, g1, Option.bind_some, e2, Option.map_some]
  have st2 : ∀ x y, f_Mg_addGroup_j34 F o (oI p) (oI a) (oI b) x y σ = f_Mg_addGroup_j52 F o (oI p) (oI a) (oI b) x y (oI (b.map (valN P2))) σ := by
    intro x y
    unfold f_Mg_addGroup_j34
    cases b with
    | none => simp only [oI_n1, if_false]; rfl
    | some k =>
      obtain ⟨e1, e2⟩ := val p2 P2 hP2 v2 l2 k (hb k rfl)
      simp only [oI_some, e1, if_true, g2, Option.bind_some, e2, Option.map_some]
  rw [st0, st1, st2]
theorem ite_ite {α : Type} {c d : Prop} [Decidable c] [Decidable d] {x y : α} : (if c then x else if d then x else y) = if c ∨ d then x else y := by
  by_cases h1 : c <;> by_cases h2 : d <;> simp [h1, h2]
theorem Mg_ag2 {p a b : Option Nat} {x4 x5 x6 : Int32} (ho : MgC σ o p0 p1 p2 bl n lt sp) (hP0 : Pm σ p0 P0) (hP1 : Pm σ p1 P1) (hP2 : Pm σ p2 P2) (t0 : Srt P0) (t1 : Srt P1) (t2 : Srt P2) (hF : 8192 < F) (hg : gOK P0 P1 P2 (p, a, b)) :
    f_Mg_addGroup_j52 F o (oI p) (oI a) (oI b) x4 x5 x6 σ = f_Mg_addGroup_j137 F o (oI p) (oI a) (oI b) x4 x5 x6 (bo (stay P0 P1 p a)) (bo (stay P0 P2 p b)) (bo (a.isNone || (stay P0 P1 p a && decide (x5 = x4)))) (bo (b.isNone || (stay P0 P2 p b && decide (x6 = x4)))) (bo (a.isSome && b.isSome)) σ := by
  have l1 := hP1.lt
  have l2 := hP2.lt
  obtain ⟨hp, ha, hb⟩ := hg
  have i1 := Mg_isPath (F := F) (p := p) (i := a) ho hP0 hP1 t0 t1 hF hp ha
  have i2 := Mg_isPath (F := F) (p := p) (i := b) ho hP0 hP2 t0 t2 hF hp hb
  unfold MgC at ho
  have g1 : am_gA σ 6 1 o = some p1 := gA_of ho rfl
  have g2 : am_gA σ 6 2 o = some p2 := gA_of ho rfl
  have na : ∀ k, a = some k → (nI k < 0) = False := fun k hk => eq_false (nI_pos (by have := ha k hk; omega))
  have nb : ∀ k, b = some k → (nI k < 0) = False := fun k hk => eq_false (nI_pos (by have := hb k hk; omega))
  unfold f_Mg_addGroup_j52
  rw [g1, Option.bind_some, i1, Option.bind_some, g2, Option.bind_some, i2, Option.bind_some]
  generalize stay P0 P1 p a = sA
  generalize stay P0 P2 p b = sB
  unfold f_Mg_addGroup_j94 f_Mg_addGroup_j98 f_Mg_addGroup_j99 f_Mg_addGroup_j117 f_Mg_addGroup_j121 f_Mg_addGroup_j122 f_Mg_addGroup_j136
  cases a with
  | none =>
    simp only [oI_n0, if_true, Option.isNone_none, Bool.true_or, Option.isSome_none, Bool.false_and]
    cases b with
    | none => simp only [oI_n0, if_true, Option.isNone_none, Bool.true_or]; rfl
    | some k =>
      simp only [oI_some, nb k rfl, if_false, Option.isNone_some, Bool.false_or]
      cases sB with
      | false => simp only [bf_0, if_true, Bool.false_and]; rfl
      | true =>
        simp only [bt_0, if_false, Bool.true_and]
        by_cases e : x6 = x4
        · simp only [e, if_true, decide_true]; rfl
        · simp only [e, if_false, decide_false]; rfl
  | some j =>
    simp only [oI_some, na j rfl, if_false, Option.isNone_some, Bool.false_or, Option.isSome_some, Bool.true_and]
    have hA : ∀ (X : Int32 → Option (Int32 × am_S)), (if bo sA = 0 then X 0 else if x5 = x4 then X 1 else X 0) = X (bo (sA && decide (x5 = x4))) := by
      intro X
      cases sA with
      | false => simp only [bf_0, if_true, Bool.false_and]; rfl
      | true =>
        simp only [bt_0, if_false, Bool.true_and]
        by_cases e : x5 = x4
        · simp only [e, if_true, decide_true]; rfl
        · simp only [e, if_false, decide_false]; rfl
    cases b with
    | none =>
      simp only [oI_n0, if_true, Option.isNone_none, Bool.true_or, Option.isSome_none]
      exact hA fun t => f_Mg_addGroup_j137 F o (oI p) (nI j) (oI none) x4 x5 x6 (bo sA) (bo sB) t 1 0 σ
    | some k =>
      simp only [oI_some, nb k rfl, if_false, Option.isNone_some, Bool.false_or, Option.isSome_some]
      have hB : ∀ t, (if bo sB = 0 then f_Mg_addGroup_j137 F o (oI p) (nI j) (nI k) x4 x5 x6 (bo sA) (bo sB) t 0 1 σ else if x6 = x4 then f_Mg_addGroup_j137 F o (oI p) (nI j) (nI k) x4 x5 x6 (bo sA) (bo sB) t 1 1 σ else f_Mg_addGroup_j137 F o (oI p) (nI j) (nI k) x4 x5 x6 (bo sA) (bo sB) t 0 1 σ) = f_Mg_addGroup_j137 F o (oI p) (nI j) (nI k) x4 x5 x6 (bo sA) (bo sB) t (bo (sB && decide (x6 = x4))) (bo true) σ := by
        intro t
        cases sB with
        | false => simp only [bf_0, if_true, Bool.false_and]; rfl
        | true =>
          simp only [bt_0, if_false, Bool.true_and]
          by_cases e : x6 = x4
          · simp only [e, if_true, decide_true]; rfl
          · simp only [e, if_false, decide_false]; rfl
      simp only [hB]
      exact hA fun t => f_Mg_addGroup_j137 F o (oI p) (nI j) (nI k) x4 x5 x6 (bo sA) (bo sB) t (bo (sB && decide (x6 = x4))) (bo true) σ
def apt (P1 P2 : PL) (a b : Option Nat) : Bool := match a, b with
  | some a, some b => !decide (pth P1 a = pth P2 b)
  | _, _ => false
theorem Mg_ag3 {p a b : Option Nat} {x4 x5 x6 : Int32} {sA sB oU tU : Bool} (ho : MgC σ o p0 p1 p2 bl n lt sp) (hP1 : Pm σ p1 P1) (hP2 : Pm σ p2 P2) (t1 : Srt P1) (t2 : Srt P2) (hF : 8192 < F) (hg : gOK P0 P1 P2 (p, a, b)) :
    f_Mg_addGroup_j137 F o (oI p) (oI a) (oI b) x4 x5 x6 (bo sA) (bo sB) (bo oU) (bo tU) (bo (a.isSome && b.isSome)) σ = if (!(a.isSome && b.isSome) && oU && tU) = true then some (1, σ) else f_Mg_addGroup_j203 F o (oI p) (oI a) (oI b) x4 x5 x6 (bo sA) (bo sB) (bo (a.isSome && b.isSome)) (bo (apt P1 P2 a b)) (bo (a.isNone || (apt P1 P2 a b && sA))) σ := by
  have l1 := hP1.lt
  have l2 := hP2.lt
  obtain ⟨hp, ha, hb⟩ := hg
  unfold MgC at ho
  have g1 : am_gA σ 6 1 o = some p1 := gA_of ho rfl
  have g2 : am_gA σ 6 2 o = some p2 := gA_of ho rfl
  have na : ∀ k, a = some k → (nI k < 0) = False := fun k hk => eq_false (nI_pos (by have := ha k hk; omega))
  have j156 : f_Mg_addGroup_j156 F o (oI p) (oI a) (oI b) x4 x5 x6 (bo sA) (bo sB) (bo (a.isSome && b.isSome)) σ = f_Mg_addGroup_j182 F o (oI p) (oI a) (oI b) x4 x5 x6 (bo sA) (bo sB) (bo (a.isSome && b.isSome)) (bo (apt P1 P2 a b)) σ := by
    unfold f_Mg_addGroup_j156 f_Mg_addGroup_j181
    cases a with
    | none => simp only [Option.isSome_none, Bool.false_and, bf_0, if_true]; rfl
    | some j =>
      cases b with
      | none => simp only [Option.isSome_none, Bool.and_false, bf_0, if_true]; rfl
      | some k =>
        have hj := ha j rfl
        have hk := hb k rfl
        simp only [Option.isSome_some, Bool.and_true, bt_0, if_false, g1, g2, Option.bind_some, oI_some]
        rw [Pm_cmpPaths hP1 hP2 hj hk hF, Option.bind_some]
        simp only [cmp0 (t1.1 _ hj) (t2.1 _ hk), apt, pth_of hj, pth_of hk]
        by_cases e : P1[j].1 = P2[k].1
        · rw [if_pos e, decide_eq_true e]; rfl
        · rw [if_neg e, decide_eq_false e]; rfl
  have j182 : ∀ ap : Bool, f_Mg_addGroup_j182 F o (oI p) (oI a) (oI b) x4 x5 x6 (bo sA) (bo sB) (bo (a.isSome && b.isSome)) (bo ap) σ = f_Mg_addGroup_j203 F o (oI p) (oI a) (oI b) x4 x5 x6 (bo sA) (bo sB) (bo (a.isSome && b.isSome)) (bo ap) (bo (a.isNone || (ap && sA))) σ := by
    intro ap
    unfold f_Mg_addGroup_j182 f_Mg_addGroup_j198 f_Mg_addGroup_j202
    cases a with
    | none => simp only [oI_n0, if_true, Option.isNone_none, Bool.true_or]; rfl
    | some j =>
      simp only [oI_some, na j rfl, if_false, Option.isNone_some, Bool.false_or]
      cases ap with
      | false => simp only [bf_0, if_true, Bool.false_and]; rfl
      | true =>
        simp only [bt_0, if_false, Bool.true_and]
        cases sA with
        | false => simp only [bf_0, if_true]; rfl
        | true => simp only [bt_0, if_false]; rfl
  unfold f_Mg_addGroup_j137
  rw [j156, j182]
  generalize f_Mg_addGroup_j203 F o (oI p) (oI a) (oI b) x4 x5 x6 (bo sA) (bo sB) (bo (a.isSome && b.isSome)) (bo (apt P1 P2 a b)) (bo (a.isNone || (apt P1 P2 a b && sA))) σ = E
  cases (a.isSome && b.isSome) <;> cases oU <;> cases tU <;> simp [bt_0, bf_0]
theorem oI_map_eq {P Q : PL} (hB : B.length ≤ 500) (v : VB B P) (w : VB B Q) {p : Option Nat} {k : Nat} (hp : ∀ i, p = some i → i < P.length) (hk : k < Q.length) : (nI (valN Q k) = oI (p.map (valN P))) ↔ p.map (valN P) = some (valN Q k) := by
  have hk' := (w k hk).1
  cases p with
  | none =>
    simp only [Option.map_none, oI_none]
    constructor
    · intro h
      exact absurd (show nI (valN Q k) < 0 by rw [h]; decide) (nI_pos (by omega))
    · intro h; cases h
  | some i =>
    have hi' := (v i (hp i rfl)).1
    simp only [Option.map_some, oI_some, Option.some.injEq]
    rw [nI_eq (by omega) (by omega)]
    exact eq_comm
theorem Mg_addGroup {g : Gp} (hB : B.length ≤ 500) (h8 : 8 ≤ sp) (ho : MgC σ o p0 p1 p2 bl n lt sp) (hOo : ¬ OcS sp o) (hP0 : Pm σ p0 P0) (hP1 : Pm σ p1 P1) (hP2 : Pm σ p2 P2) (v0 : VB B P0) (v1 : VB B P1) (v2 : VB B P2) (t0 : Srt P0) (t1 : Srt P1) (t2 : Srt P2) (hd1 : p1 + 4 ≤ sp) (hd2 : p2 + 4 ≤ sp) (hF : 8192 < F) (hg : gOK P0 P1 P2 g) (h : Oc σ sp bl Pl L) (hs : Srt Pl) :
    match grec P0 P1 P2 g with
    | none => f_Mg_addGroup F σ o (oI g.1) (oI g.2.1) (oI g.2.2) = some (1, σ)
    | some x => AgR (f_Mg_addGroup F σ o (oI g.1) (oI g.2.1) (oI g.2.2)) σ sp bl Pl L x.1 (rc0 (gsrc P0 P1 P2 g) x.2) := by
  obtain ⟨p, a, b⟩ := g
  have l0 := hP0.lt
  have hgp := hg.1
  simp only
  rw [Mg_ag1 ho hP0 hP1 hP2 v0 v1 v2 hg, Mg_ag2 ho hP0 hP1 hP2 t0 t1 t2 hF hg, Mg_ag3 ho hP1 hP2 t1 t2 hF hg]
  have J := fun (q : List Int32) (at_ : Bool) => Mg_j203 (F := F) (p := p) (a := a) (b := b) (s0 := oI (p.map (valN P0))) (s1 := oI (a.map (valN P1))) (s2 := oI (b.map (valN P2))) (x7 := stay P0 P1 p a) (x8 := stay P0 P2 p b) (x11 := a.isSome && b.isSome) (x12 := apt P1 P2 a b) (at_ := at_) (q := q) h8 ho hOo (fun k hk => by have := hgp k hk; omega) h hs hP1 hP2 t1 t2 hd1 hd2 hF
  unfold rc0 gsrc
  cases a with
  | none =>
    cases b with
    | none => simp [grec]
    | some k =>
      have hk := hg.2.2 k rfl
      have ev := oI_map_eq hB v0 v2 (p := p) hgp hk
      simp only [grec, Option.isSome_none, Bool.false_and, Bool.not_false, Bool.true_and, Option.isNone_none, Bool.true_or, Option.isNone_some, Bool.false_or, Option.map_some, oI_some, ev, Option.map_none]
      by_cases c : (stay P0 P2 p (some k) && decide (p.map (valN P0) = some (valN P2 k))) = true
      · rw [if_pos c, if_pos c]
      · rw [if_neg c, if_neg c]
        have := J (pth P2 k) true ⟨k, rfl, hk, rfl⟩
        simpa [oI_some] using this
  | some j =>
    have hj := hg.2.1 j rfl
    have eu := oI_map_eq hB v0 v1 (p := p) hgp hj
    cases b with
    | none =>
      simp only [grec, Option.isSome_none, Bool.and_false, Bool.not_false, Bool.true_and, Option.isNone_none, Bool.true_or, Option.isNone_some, Bool.false_or, Option.map_some, oI_some, eu, Option.map_none, Bool.and_true, apt, Bool.false_and]
      by_cases c : (stay P0 P1 p (some j) && decide (p.map (valN P0) = some (valN P1 j))) = true
      · rw [if_pos c, if_pos c]
      · rw [if_neg c, if_neg c]
        have := J (pth P1 j) false ⟨j, rfl, hj, rfl⟩
        simpa [apt, oI_some] using this
    | some k =>
      have hk := hg.2.2 k rfl
      simp only [grec, Option.isSome_some, Bool.and_self, Bool.not_true, Bool.false_and, if_neg Bool.false_ne_true, Option.isNone_some, Bool.false_or, Option.map_some, oI_some]
      by_cases c : pth P1 j = pth P2 k
      · rw [if_pos c]
        have := J (pth P1 j) false ⟨j, rfl, hj, rfl⟩
        simpa [apt, c, oI_some] using this
      · rw [if_neg c]
        cases hst : stay P0 P1 p (some j) with
        | true =>
          have := J (pth P2 k) true ⟨k, rfl, hk, rfl⟩
          simpa [apt, c, hst, oI_some] using this
        | false =>
          have := J (pth P1 j) false ⟨j, rfl, hj, rfl⟩
          simpa [apt, c, hst, oI_some] using this
end AG
