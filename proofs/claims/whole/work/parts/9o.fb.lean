/-! ===== L3: the reference: new TEXTS; listing an OUTCOME ===== -/
def vlE (e : Og) (n : Nat) : Int32 := match e.2.2.2.1 with
  | some b => nI b
  | none => -1 - nI n
def oqE (e : Og) (n : Nat) : Pe := (e.2.1, (vlE e n, -1, -1), e.2.2.1)
def oqA (n : Nat) : List Og → List Pe
  | [] => []
  | e :: O => oqE e (n + (frT [e]).length) :: oqA (n + (frT [e]).length) O
theorem oqA_len : ∀ (O : List Og) (n : Nat), (oqA n O).length = O.length
  | [], _ => rfl
  | e :: O, n => by rw [oqA, List.length_cons, List.length_cons, oqA_len O]
theorem oqA_pts : ∀ (O : List Og) (n : Nat), pts (oqA n O) = ogP O
  | [], _ => rfl
  | e :: O, n => by
    have := oqA_pts O (n + (frT [e]).length)
    unfold pts ogP at *
    rw [oqA, List.map_cons, List.map_cons, this]
    rfl
theorem frT_cons (e : Og) (O : List Og) : frT (e :: O) = frT [e] ++ frT O := frT_app [e] O
theorem oqA_snoc : ∀ (O : List Og) (e : Og) (n : Nat), oqA n (O ++ [e]) = oqA n O ++ [oqE e (n + (frT (O ++ [e])).length)]
  | [], e, n => rfl
  | x :: O, e, n => by
    rw [List.cons_append, oqA, oqA_snoc O e, oqA, frT_cons x (O ++ [e]), List.length_append, ← Nat.add_assoc]
    rfl
theorem oqA_get : ∀ (O : List Og) (n k : Nat) (h : k < O.length), (oqA n O)[k]'(by rw [oqA_len]; exact h) = oqE O[k] (n + (frT (O.take (k + 1))).length)
  | e :: O, n, 0, h => by simp [oqA]
  | e :: O, n, k + 1, h => by
    simp only [oqA, List.getElem_cons_succ, List.take_succ_cons]
    rw [oqA_get O _ k (by simpa using h), frT_cons e (O.take (k + 1)), List.length_append, ← Nat.add_assoc]
def FI (g : Gh) (σ : am_S) (th bm gv : Int32) (T : List (List Int32)) : Prop := (∃ gm cm, Ce g σ 95 (MDC th bm gv gm cm (nI T.length))) ∧ Ro g σ 162 T.flatten ∧ (∃ ff, Ce g σ 166 (cI 1700 ff) ∧ ∀ j, j ≤ T.length → ff j = nI (sl (T.take j))) ∧ sl T ≤ 65536
def OI (g : Gh) (σ : am_S) (O : List Og) : Prop := Ps g σ 145 (oqA 0 O) ∧ (∃ f, Ce g σ 167 (cI 1700 f) ∧ ∀ k (h : k < O.length), f k = oI O[k].1.1) ∧ (∃ f, Ce g σ 168 (cI 1700 f) ∧ ∀ k (h : k < O.length), f k = oI O[k].1.2.1) ∧ ∃ f, Ce g σ 169 (cI 1700 f) ∧ ∀ k (h : k < O.length), f k = oI O[k].1.2.2
theorem FI.fo {T : Nat → Prop} {g g1 : Gh} {σ σ1 : am_S} {th bm gv : Int32} {X : List (List Int32)} (h : FI g σ th bm gv X) (hf : Fo T g σ g1 σ1) (hT : ∀ a, a = 95 ∨ a = 162 ∨ a = 166 → ¬ T a) : FI g1 σ1 th bm gv X := by
  obtain ⟨⟨gm, cm, h1⟩, h2, ⟨ff, h3, h4⟩, h5⟩ := h
  exact ⟨⟨gm, cm, h1.fo hf (hT _ (by omega))⟩, h2.fo hf (hT _ (by omega)), ⟨ff, h3.fo hf (hT _ (by omega)), h4⟩, h5⟩
theorem OI.fo {T : Nat → Prop} {g g1 : Gh} {σ σ1 : am_S} {O : List Og} (h : OI g σ O) (hf : Fo T g σ g1 σ1) (hT : ∀ a, (145 ≤ a ∧ a ≤ 150) ∨ (167 ≤ a ∧ a ≤ 169) → ¬ T a) : OI g1 σ1 O := by
  obtain ⟨h1, ⟨f2, h2, h2'⟩, ⟨f3, h3, h3'⟩, ⟨f4, h4, h4'⟩⟩ := h
  exact ⟨h1.fo hf fun a _ _ => hT a (by omega), ⟨f2, h2.fo hf (hT _ (by omega)), h2'⟩, ⟨f3, h3.fo hf (hT _ (by omega)), h3'⟩, ⟨f4, h4.fo hf (hT _ (by omega)), h4'⟩⟩
section FB
variable {g : Gh} {F : Nat} {th gv : Int32} {B : List (List Int32)} {X : List (List Int32)}
theorem take_snoc_sl {X : List (List Int32)} {t : List Int32} {j : Nat} (h : j ≤ X.length) : (X ++ [t]).take j = X.take j := List.take_append_of_le_length h
theorem Md_fresh42 {σ : am_S} {t : List Int32} (hf : FI g σ th (nI B.length) gv X) (hR : Ro g σ 164 t) (hX : X.length < 1600) (hF : 131072 < F) :
    (65536 < sl X + t.length → f_Md_freshBlob_j42 F 95 164 0 σ = some (.inl 1, σ)) ∧ (sl X + t.length ≤ 65536 → ∃ g' σ', f_Md_freshBlob_j42 F 95 164 1 σ = some (.inr (-1 - nI (X ++ [t]).length), σ') ∧ FI g' σ' th (nI B.length) gv (X ++ [t]) ∧ Fo (fun a => a = 95 ∨ a = 162 ∨ a = 166) g σ g' σ') := by
  constructor
  · intro _
    unfold f_Md_freshBlob_j42 f_Md_allow
    rw [if_pos rfl]
    rfl
  · intro hl
    obtain ⟨⟨gm, cm, h1⟩, h2, ⟨ff, h3, h4⟩, h5⟩ := hf
    have z := h1.1
    unfold MDC at z
    have hfl : X.flatten.length = sl X := sl_flat X
    obtain ⟨g1, σ1, a1, a2, a3⟩ := Ro_addc (F := F) h2 hR (by omega) (by omega) hF
    have h1a := h1.fo a3 (by omega)
    have z1 := h1a.1
    unfold MDC at z1
    obtain ⟨σ2, b1, b2, b3⟩ := Md_fm h1a (nI (X.length + 1))
    have z2 := b2.1
    unfold MDC at z2
    have R2 := a2.fo b3 (by omega)
    have hn := Ro_n R2
    have h3b := (h3.fo a3 (by omega)).fo b3 (by omega)
    obtain ⟨σ3, c1, c2, c3⟩ := h3b.si (v := nI (X.flatten ++ t).length) (i := X.length + 1) (by omega) (by omega) (by omega)
    have z3 := (b2.fo c3 (by omega)).1
    unfold MDC at z3
    unfold f_Md_freshBlob_j42 f_Md_allow
    rw [if_neg (by decide)]
    simp only [am_bt, am_btf, Option.bind_some]
    rw [gA_of z (k := 30) rfl, Option.bind_some, a1]
    simp only [am_b2, Option.bind_some]
    rw [gI_of z1 (k := 33) rfl, Option.bind_some, nI_1, b1, Option.bind_some, gA_of z2 (k := 32) rfl, Option.bind_some, gI_of z2 (k := 33) rfl, Option.bind_some, gA_of z2 (k := 30) rfl, Option.bind_some, hn, Option.bind_some, c1, Option.bind_some, gI_of z3 (k := 33) rfl, Option.bind_some]
    have hlen : (X ++ [t]).length = X.length + 1 := by simp
    have hsl : (X.flatten ++ t).length = sl (X ++ [t]) := by rw [List.length_append, hfl, sl_app, sl_one]
    refine ⟨g1, σ3, by rw [hlen], ⟨⟨gm, cm, by rw [hlen]; exact b2.fo c3 (by omega)⟩, ?_, ⟨_, c2, fun j hj => ?_⟩, by rw [sl_app, sl_one]; omega⟩, (a3.mono fun a ha => by omega).trans ((b3.mono fun a ha => by omega).trans (c3.mono fun a ha => by omega))⟩
    · have : (X ++ [t]).flatten = X.flatten ++ t := by simp
      rw [this]
      exact R2.fo c3 (by omega)
    · rw [hlen] at hj
      by_cases e : j = X.length + 1
      · subst e
        rw [uf_same, hsl, List.take_of_length_le (by omega)]
      · rw [uf_ne e, h4 j (by omega), take_snoc_sl (by omega)]
theorem Md_fresh {σ : am_S} {t : List Int32} {fl : Bool} (hf : FI g σ th (nI B.length) gv X) (hB : BLK g σ B) (hR : Ro g σ 164 t) (hX : X.length < 1600) (hF : 131072 < F) :
    match (if fl = true then none else bfnd B t) with
    | some k => f_Md_freshBlob F σ 95 164 (bo fl) = some (.inr (nI k), σ)
    | none => (65536 < sl X + t.length → f_Md_freshBlob F σ 95 164 (bo fl) = some (.inl 1, σ)) ∧ (sl X + t.length ≤ 65536 → ∃ g' σ', f_Md_freshBlob F σ 95 164 (bo fl) = some (.inr (-1 - nI (X ++ [t]).length), σ') ∧ FI g' σ' th (nI B.length) gv (X ++ [t]) ∧ Fo (fun a => a = 95 ∨ a = 162 ∨ a = 166) g σ g' σ') := by
  obtain ⟨q1, q2⟩ := Md_fresh42 (F := F) hf hR hX hF
  obtain ⟨⟨gm, cm, h1⟩, h2, -, h5⟩ := id hf
  have z := h1.1
  unfold MDC at z
  have hb := Md_blobOf (F := F) h1 hB hR hF
  have hn2 := Ro_n h2
  have hn := Ro_n hR
  have hl := Ro_len hR
  have hb5 := hB.2.1
  rw [sl_flat] at hn2
  have j13 : f_Md_freshBlob_j13 F 95 164 (-1) σ = if 65536 < sl X + t.length then f_Md_freshBlob_j42 F 95 164 0 σ else f_Md_freshBlob_j42 F 95 164 1 σ := by
    unfold f_Md_freshBlob_j13
    rw [if_pos (by decide), gA_of z (k := 30) rfl, Option.bind_some, hn2, Option.bind_some, hn, Option.bind_some, nI_add]
    by_cases c : 65536 < sl X + t.length
    · rw [if_pos (show (65536 : Int32) < nI (sl X + t.length) from nI_lt (a := 65536) c (by omega)), if_pos c]
    · rw [if_neg (show ¬ (65536 : Int32) < nI (sl X + t.length) from nI_nlt (a := 65536) (by omega) (by omega)), if_neg c]
  have fin : f_Md_freshBlob F σ 95 164 (bo fl) = f_Md_freshBlob_j13 F 95 164 (-1) σ → (65536 < sl X + t.length → f_Md_freshBlob F σ 95 164 (bo fl) = some (.inl 1, σ)) ∧ (sl X + t.length ≤ 65536 → ∃ g' σ', f_Md_freshBlob F σ 95 164 (bo fl) = some (.inr (-1 - nI (X ++ [t]).length), σ') ∧ FI g' σ' th (nI B.length) gv (X ++ [t]) ∧ Fo (fun a => a = 95 ∨ a = 162 ∨ a = 166) g σ g' σ') := by
    intro e
    rw [e, j13]
    constructor
    · intro c
      rw [if_pos c]
      exact q1 c
    · intro c
      rw [if_neg (by omega)]
      exact q2 c
  cases fl with
  | true =>
    rw [if_pos rfl]
    simp only
    refine fin ?_
    unfold f_Md_freshBlob
    rw [am_ck_of z, if_neg (by decide)]
  | false =>
    rw [if_neg Bool.false_ne_true]
    cases hk : bfnd B t with
    | some k =>
      obtain ⟨hkl, -⟩ := bfnd_lt hk
      simp only
      unfold f_Md_freshBlob
      rw [am_ck_of z, if_pos (by decide), hb, Option.bind_some, hk, oI_some]
      unfold f_Md_freshBlob_j13
      rw [if_neg (nI_pos (by omega))]
    | none =>
      simp only
      refine fin ?_
      unfold f_Md_freshBlob
      rw [am_ck_of z, if_pos (by decide), hb, Option.bind_some, hk, oI_none]
theorem OI_at {σ : am_S} {O : List Og} (h : OI g σ O) : O.length < 1700 ∧ pts (oqA 0 O) = ogP O := by
  have := (Ps_ob h.1).2
  rw [oqA_len] at this
  exact ⟨this, oqA_pts O 0⟩
/-- an OUTCOME more -/
theorem Md_outc {σ : am_S} {O : List Og} {P : PL} {mp k : Nat} {e : Og} {bm gm cm fm : Int32} (hc : Ce g σ 95 (MDC th bm gv gm cm fm)) (h : OI g σ O) (hP : Ps g σ mp (mpE P)) (hmp : mp = 103 ∨ mp = 109) (hk : k < P.length) (he : e.2.1 = pth P k) (hO : O.length < 1300) (hl : sl (ogP O) + (pth P k).length ≤ 65536) (hF : 131072 < F) :
    ∃ g' σ', f_Md_outcomea F σ 95 mp (nI k) (vlE e (frT (O ++ [e])).length) (bo e.2.2.1) (oI e.1.1) (oI e.1.2.1) (oI e.1.2.2) = some (.inr (), σ') ∧ OI g' σ' (O ++ [e]) ∧ Fo (fun a => (145 ≤ a ∧ a ≤ 150) ∨ (167 ≤ a ∧ a ≤ 169)) g σ g' σ' := by
  obtain ⟨h1, ⟨f2, h2, h2'⟩, ⟨f3, h3, h3'⟩, ⟨f4, h4, h4'⟩⟩ := h
  have z := hc.1
  unfold MDC at z
  have hk' : k < (mpE P).length := by rw [mpE_len]; exact hk
  obtain ⟨e1, e2⟩ := Ps_from hP (k := k) (by omega)
  obtain ⟨-, e3⟩ := Ps_from hP (k := k + 1) (by omega)
  have su := pts_succ hk'
  have hg : (mpE P)[k].1 = pth P k := by rw [mpE_get hk, pth_of hk]
  rw [hg] at su
  have hrow := Ps_row hP
  have hrl := Ps_lenle hP hk'
  rw [hg] at hrl
  have gp0 : am_gA σ 11 0 mp = some (mp + 1) := gA_of (Ps_ob hP).1 rfl
  have hsl : sl ((pts (mpE P)).take (k + 1)) ≤ (pts (mpE P)).flatten.length := by
    rw [sl_flat]
    exact sl_take_le _ _
  have hpo : pts (oqA 0 O) = ogP O := oqA_pts O 0
  have hol : (oqA 0 O).length = O.length := oqA_len O 0
  obtain ⟨g1, σ1, a1, a2, a3⟩ := Ps_add (F := F) h1 hrow (by omega) (show sl ((pts (mpE P)).take k) ≤ sl ((pts (mpE P)).take (k + 1)) by omega) hsl (by rw [hol]; omega) (by rw [hpo]; omega) hF
  have ebt : ((pts (mpE P)).flatten.take (sl ((pts (mpE P)).take (k + 1)))).drop (sl ((pts (mpE P)).take k)) = pth P k := by rw [slB_row hk', hg]
  rw [ebt] at a2
  rw [hol] at a1
  have hc1 := hc.fo a3 (by omega)
  have z1 := hc1.1
  unfold MDC at z1
  have hL1 : O.length < (oqA 0 O ++ [((pth P k), ((-1 : Int32), (-1 : Int32), (-1 : Int32)), false)]).length := by rw [List.length_append, hol]; simp
  generalize hv : vlE e (frT (O ++ [e])).length = v
  obtain ⟨b1, σ2, b2, b3, b4⟩ := Ps_setV (c := 0) (v := v) a2 hL1 (by omega)
  have hc2 := hc1.fo b4 (by omega)
  have z2 := hc2.1
  unfold MDC at z2
  have hL2 : O.length < ((oqA 0 O ++ [((pth P k), ((-1 : Int32), (-1 : Int32), (-1 : Int32)), false)]).set O.length (setV (oqA 0 O ++ [((pth P k), ((-1 : Int32), (-1 : Int32), (-1 : Int32)), false)])[O.length] 0 v)).length := by rw [List.length_set]; exact hL1
  obtain ⟨c1, σ3, c2, c3, c4⟩ := Ps_setU (v := e.2.2.1) b3 hL2
  have hc3 := hc2.fo c4 (by omega)
  have z3 := hc3.1
  unfold MDC at z3
  have hlast : (oqA 0 O ++ [((pth P k), ((-1 : Int32), (-1 : Int32), (-1 : Int32)), false)])[O.length] = ((pth P k), ((-1 : Int32), (-1 : Int32), (-1 : Int32)), false) := by
    rw [List.getElem_append_right (by omega)]
    simp [hol]
  have hset : ∀ x y : Pe, (oqA 0 O ++ [x]).set O.length y = oqA 0 O ++ [y] := fun x y => by
    rw [List.set_append_right _ _ (by omega)]
    simp [hol]
  have c3' : Ps g1 σ3 145 (oqA 0 (O ++ [e])) := by
    rw [oqA_snoc]
    have : (((oqA 0 O ++ [((pth P k), ((-1 : Int32), (-1 : Int32), (-1 : Int32)), false)]).set O.length (setV (oqA 0 O ++ [((pth P k), ((-1 : Int32), (-1 : Int32), (-1 : Int32)), false)])[O.length] 0 v))[O.length]).1 = pth P k ∧ (((oqA 0 O ++ [((pth P k), ((-1 : Int32), (-1 : Int32), (-1 : Int32)), false)]).set O.length (setV (oqA 0 O ++ [((pth P k), ((-1 : Int32), (-1 : Int32), (-1 : Int32)), false)])[O.length] 0 v))[O.length]).2.1 = (v, -1, -1) := by
      rw [List.getElem_set_self, hlast]
      exact ⟨rfl, rfl⟩
    rw [this.1, this.2, hset, hset] at c3
    have : oqE e (0 + (frT (O ++ [e])).length) = (pth P k, (v, -1, -1), e.2.2.1) := by
      unfold oqE
      rw [he, Nat.zero_add, hv]
    rw [this]
    exact c3
  have W3 : Fo (fun a => 145 ≤ a ∧ a ≤ 150) g σ g1 σ3 := (a3.mono fun a ha => ⟨by omega, by omega⟩).trans ((b4.mono fun a ha => ⟨by omega, by omega⟩).trans (c4.mono fun a ha => ⟨by omega, by omega⟩))
  obtain ⟨σ4, d1, d2, d3⟩ := (h3.fo W3 (by omega)).si (v := oI e.1.2.1) (i := O.length) (by omega) (by omega) (by omega)
  have z4 := (hc3.fo d3 (by omega)).1
  unfold MDC at z4
  obtain ⟨σ5, u1, u2, u3⟩ := ((h4.fo W3 (by omega)).fo d3 (by omega)).si (v := oI e.1.2.2) (i := O.length) (by omega) (by omega) (by omega)
  have z5 := ((hc3.fo d3 (by omega)).fo u3 (by omega)).1
  unfold MDC at z5
  obtain ⟨σ6, w1, w2, w3⟩ := (((h2.fo W3 (by omega)).fo d3 (by omega)).fo u3 (by omega)).si (v := oI e.1.1) (i := O.length) (by omega) (by omega) (by omega)
  have z6 := (((hc3.fo d3 (by omega)).fo u3 (by omega)).fo w3 (by omega)).1
  unfold MDC at z6
  have P6 := ((c3'.fo d3 fun a _ _ => by omega).fo u3 fun a _ _ => by omega).fo w3 fun a _ _ => by omega
  have hn6 := Ps_n P6
  have hn6' : (oqA 0 (O ++ [e])).length = O.length + 1 := by rw [oqA_len]; simp
  rw [hn6'] at hn6
  have e3' : 3 * nI O.length = nI (3 * O.length + 0) := nI_mul 3 O.length
  have rows : ∀ {f : Nat → Int32} {x : Og → Option Nat}, (∀ k (h : k < O.length), f k = oI (x O[k])) → ∀ k (h : k < (O ++ [e]).length), uf f O.length (oI (x e)) k = oI (x (O ++ [e])[k]) := by
    intro f x hf k hk
    rw [List.length_append, List.length_singleton] at hk
    by_cases c : k = O.length
    · subst c
      rw [uf_same, List.getElem_append_right (Nat.le_refl _)]
      simp
    · rw [uf_ne c, hf k (by omega), List.getElem_append_left (by omega)]
  unfold f_Md_outcomea
  rw [am_ck_of z, gA_of z (k := 23) rfl, Option.bind_some, gp0, Option.bind_some, e1, Option.bind_some, e2, Option.bind_some, Option.bind_some, nI_1, e3, Option.bind_some, a1]
  simp only [am_b2, Option.bind_some]
  rw [gA_of z1 (k := 23) rfl, Option.bind_some, b1, Option.bind_some, e3', b2, Option.bind_some, gA_of z2 (k := 23) rfl, Option.bind_some, c1, Option.bind_some, c2, Option.bind_some, gA_of z3 (k := 35) rfl, Option.bind_some, d1, Option.bind_some, gA_of z4 (k := 36) rfl, Option.bind_some, u1, Option.bind_some, gA_of z5 (k := 34) rfl, Option.bind_some, w1, Option.bind_some, gA_of z6 (k := 23) rfl, Option.bind_some, hn6, Option.bind_some, if_neg (show ¬ (1600 : Int32) ≤ nI (O.length + 1) from nI_ge (a := O.length + 1) (b := 1600) (by omega) (by omega))]
  unfold f_Md_outcomea_j97 f_Md_allow
  rw [if_neg (by decide)]
  refine ⟨g1, σ6, rfl, ⟨P6, ⟨_, w2, rows (x := fun e => e.1.1) h2'⟩, ⟨_, (d2.fo u3 (by omega)).fo w3 (by omega), rows (x := fun e => e.1.2.1) h3'⟩, ⟨_, u2.fo w3 (by omega), rows (x := fun e => e.1.2.2) h4'⟩⟩, (W3.mono fun a ha => Or.inl ha).trans ((d3.mono fun a ha => by omega).trans ((u3.mono fun a ha => by omega).trans (w3.mono fun a ha => by omega)))⟩
end FB
