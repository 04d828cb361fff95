/-! ===== L3: the reference's merge ===== -/
theorem gtxt_ok {B : List (List Int32)} {s : Sr} (hs : srOK B s) {u : Bool} {k : Nat} (h : (gtxt B s u).2.1 = some k) : ∃ hk : k < B.length, B[k] = (gtxt B s u).2.2 := by
  cases hc : chs s with
  | some j =>
    rw [chs_some hc] at h ⊢
    simp only [Option.some.injEq] at h
    subst h
    have hj : j < B.length := by
      obtain ⟨s0, s1, s2⟩ := s
      obtain ⟨h0, h1, h2, -⟩ := hs
      unfold chs at hc
      cases s1 with
      | none => exact h2 j hc
      | some x =>
        cases s2 with
        | none => cases hc; exact h1 _ rfl
        | some y =>
          simp only at hc
          split at hc
          · cases hc; exact h1 _ rfl
          · split at hc
            · cases hc; exact h2 _ rfl
            · cases hc
    exact ⟨hj, (getD_of hj).symm⟩
  | none =>
    obtain ⟨x, y, -, -, e⟩ := chs_none (B := B) hs.2.2.2 hc
    rw [e] at h ⊢
    split at h
    · cases h
    · rename_i hu
      rw [if_neg hu]
      exact bfnd_lt h
theorem DCI.fo2 {T : Nat → Prop} {g g1 : Gh} {σ σ1 : am_S} {th gv : Int32} {B : List (List Int32)} {P0 P1 P2 : PL} {O : List Og} (h : DCI g σ th gv B P0 P1 P2 O) (hf : Fo T g σ g1 σ1) (hT : ∀ a, T a → 170 ≤ a) : DCI g1 σ1 th gv B P0 P1 P2 O := by
  obtain ⟨⟨k1, k2, k3, k4, k5, k6, k7, k8, t, k9⟩, hFI, hOI⟩ := h
  have hd : ∀ a, a < 170 → ¬ T a := fun a ha z => by have := hT a z; omega
  exact ⟨⟨k1.fo hf, k2.fo k1 hf fun a ha => hd a (by omega), k3.fo hf (hd _ (by omega)) (hd _ (by omega)), k4.fo hf fun a _ _ => hd a (by omega), k5.fo hf fun a _ _ => hd a (by omega), k6.fo hf fun a _ _ => hd a (by omega), k7.fo hf fun a ha => hd a (by omega), k8.fo hf fun a _ _ => hd a (by omega), t, k9.fo hf (hd _ (by omega))⟩, hFI.fo hf fun a ha => hd a (by omega), hOI.fo hf fun a ha => hd a (by omega)⟩
theorem fr_at {O : List Og} {c : Nat} (hc : c < O.length) (hb : O[c].2.2.2.1 = none) : (frT (O.take (c + 1))).length = (frT (O.take c)).length + 1 ∧ (frT O).take ((frT (O.take c)).length + 1) = frT (O.take c) ++ [O[c].2.2.2.2] ∧ (frT O).take (frT (O.take c)).length = frT (O.take c) ∧ (frT (O.take c)).length + 1 ≤ (frT O).length := by
  have e1 : frT (O.take (c + 1)) = frT (O.take c) ++ [O[c].2.2.2.2] := by
    rw [List.take_succ_eq_append_getElem hc]
    exact frT_n hb
  have e2 : frT O = frT (O.take (c + 1)) ++ frT (O.drop (c + 1)) := by rw [← frT_app, List.take_append_drop]
  rw [e1] at e2
  refine ⟨by rw [e1]; simp, ?_, ?_, ?_⟩
  · rw [e2, List.take_append_of_le_length (by simp), List.take_of_length_le (by simp)]
  · rw [e2, List.append_assoc, List.take_append_of_le_length (Nat.le_refl _), List.take_length]
  · rw [e2]
    simp only [List.length_append, List.length_singleton]
    omega
theorem m12 (j : Nat) (hj : j + 1 < 2 ^ 31) : ¬ (0 : Int32) ≤ -1 - nI (j + 1) ∧ -2 - (-1 - nI (j + 1)) = nI j ∧ -1 - (-1 - nI (j + 1)) = nI (j + 1) := by
  obtain ⟨h1, h2⟩ := m1_sub (j + 1) hj
  refine ⟨h1, ?_, h2⟩
  have : (-2 : Int32) - (-1 - nI (j + 1)) = (-1 - (-1 - nI (j + 1))) - 1 := by
    have e : (-2 : Int32) = -1 - 1 := by decide
    rw [e]
    generalize nI (j + 1) = x
    grind
  rw [this, h2]
  exact nI_pred j
abbrev SET : Nat → Prop := fun a => 176 ≤ a ∧ a ≤ 185
def SQ (g : Gh) (σ : am_S) (P0 P1 P2 : PL) (O : List Og) (I : List Nat) (k : Nat) : Prop := ∃ Q sf sb, Ps g σ 176 Q ∧ Q.length = k ∧ pts Q = (I.take k).map (op O) ∧ Ro g σ 182 (frT O).flatten ∧ Ce g σ 184 (cI 1700 sf) ∧ Ce g σ 185 (cI 1700 sb) ∧ ∀ i (h : i < I.length) (h' : i < Q.length) (h'' : I[i] < O.length), SEr Q[i] (op O I[i]) (orc P0 P1 P2 O[I[i]]) (frT O).flatten (sf i) (sb i)
def uo (O : List Og) (i : Nat) : Nat := if (O[i]?.map fun e => e.2.2.1) = some true then 1 else 0
section MG
variable {g : Gh} {F : Nat} {th gv : Int32} {B : List (List Int32)} {P0 P1 P2 : PL} {O : List Og} {I : List Nat}
/-- one of the three numbers -/
theorem Md_num {β : Type} {P : PL} {p : Option Nat} {mp fl fa aa c : Nat} {σ : am_S} {f : Nat → Int32} {K : Int32 → Option β} (hP : Ps g σ mp (mpE P)) (hV : VB B P) (hf : am_gA σ 10 fl 95 = some mp) (hfa : am_gA σ 10 fa 95 = some aa) (hA : Ce g σ aa (cI 1700 f)) (hc : c < 1700) (hfc : f c = oI p) (hl : P.length ≤ 400) (hp : ∀ k, p = some k → k < P.length) : ((am_gA σ 10 fa 95).bind fun v76 => (am_lI σ .int v76 (nI c)).bind fun v77 => if 0 ≤ v77 then (am_gA σ 10 fl 95).bind fun v78 => (am_gA σ 11 2 v78).bind fun v79 => (am_gA σ 10 fa 95).bind fun v80 => (am_lI σ .int v80 (nI c)).bind fun v81 => (am_lI σ .int v79 (3 * v81)).bind fun v82 => K v82 else K (-1)) = K (oI (p.map (valN P))) := by
  have q := lI_of hA.1 hc (by omega)
  rw [hfc] at q
  rw [hfa, Option.bind_some, q, Option.bind_some]
  have := Md_rd (K := K) hP hV hf hl hp
  simp only [Option.bind_some, q]
  exact this
theorem Md_l53 (v0 : VB B P0) (v1 : VB B P1) (v2 : VB B P2) (l0 : P0.length ≤ 400) (l1 : P1.length ≤ 400) (l2 : P2.length ≤ 400) (hb5 : B.length ≤ 500) (hok : ∀ e ∈ O, gOK P0 P1 P2 e.1 ∧ ∀ k, e.2.2.2.1 = some k → k < B.length) (hB : ogB O) (hG : GI O I) (hIl : I.length = O.length) (hn : I.length ≤ 400) (hl : sl (ogP O) ≤ 16384) (hF : 131072 < F) : ∀ (m k : Nat) (g : Gh) (σ : am_S), DCI g σ th gv B P0 P1 P2 O → Ps g σ 151 (rQ O I) → SQ g σ P0 P1 P2 O I k → k ≤ I.length → I.length - k < m →
    ∃ g' σ', f_Md_merge_l53 F 95 m (nI ((I.take k).map (uo O)).sum) (nI k) σ = some (nI (I.map (uo O)).sum, σ') ∧ DCI g' σ' th gv B P0 P1 P2 O ∧ Ps g' σ' 151 (rQ O I) ∧ SQ g' σ' P0 P1 P2 O I I.length ∧ Fo SET g σ g' σ' := by
  intro m
  induction m with
  | zero => intro k _ _ _ _ _ _ h; omega
  | succ m ih =>
    intro k g σ hD hR hQ hk0 hm
    obtain ⟨hE, ⟨⟨gm, cm, hc⟩, -, -⟩, hOI⟩ := id hD
    have z := hc.1
    unfold MDC at z
    have g24 : am_gA σ 10 24 95 = some 151 := gA_of z (k := 24) rfl
    have hn1 := Ps_n hR
    rw [rQ_len] at hn1
    rw [f_Md_merge_l53, g24, Option.bind_some, hn1, Option.bind_some]
    by_cases c : I.length ≤ k
    · have e : k = I.length := by omega
      subst e
      rw [if_pos (nI_le c (by omega)), List.take_length]
      exact ⟨g, σ, rfl, hD, hR, hQ, Fo.refl _ _ _⟩
    · have hk : k < I.length := by omega
      rw [if_neg (nI_ge hk (by omega))]
      obtain ⟨x, hx⟩ : ∃ x, I[k] = x := ⟨_, rfl⟩
      have hxO : x < O.length := by rw [← hx]; exact hG.1 _ (List.getElem_mem hk)
      have hkr : k < (rQ O I).length := by rw [rQ_len]; exact hk
      obtain ⟨e, he⟩ : ∃ e, O[x] = e := ⟨_, rfl⟩
      have hem : e ∈ O := by rw [← he]; exact List.getElem_mem hxO
      obtain ⟨hgk, hbk⟩ := hok e hem
      have hent : (rQ O I)[k] = (op O x, (vlE e (frT (O.take (x + 1))).length, nI x, -1), e.2.2.1) := by
        simp only [rQ, List.getElem_map]
        rw [hx, (oqA_op hxO).1, oqA_get O 0 x hxO, he, Nat.zero_add, op_of hxO, he]
        rfl
      obtain ⟨r1, r2, r3, r4, r5, r6⟩ := Ps_val hR (k := k) hkr
      rw [hent] at r2 r3 r6
      simp only at r2 r3 r6
      have i3 : (3 : Int32) * nI k = nI (3 * k) := nI_mul 3 k
      have i31 : nI (3 * k) + 1 = nI (3 * k + 1) := nI_1 _
      obtain ⟨Q, sf, sb, Q1, Q2, Q3, Q4, Q5, Q6, Q7⟩ := id hQ
      have hsumk : sl (pts Q) = ((I.take k).map fun i => (op O i).length).sum := by
        rw [Q3]
        unfold sl
        rw [List.map_map]
        rfl
      have hsum := hG.sum hB
      have hsplit : ((I.take (k + 1)).map fun i => (op O i).length).sum = ((I.take k).map fun i => (op O i).length).sum + (op O x).length := by
        rw [List.take_succ_eq_append_getElem hk, List.map_append, List.sum_append_nat, hx]
        simp
      have hpre : ((I.take (k + 1)).map fun i => (op O i).length).sum ≤ (I.map fun i => (op O i).length).sum := by
        conv => rhs; rw [← List.take_append_drop (k + 1) I, List.map_append, List.sum_append_nat]
        omega
      obtain ⟨g1, σ1, a1, a2, a3⟩ := Ps_take (F := F) Q1 hR (by omega) hkr (by omega) (by rw [hent]; simp only; omega) hF
      rw [hent] at a2
      have D1 := hD.fo2 a3 fun a ha => by omega
      obtain ⟨⟨-, -, -, k4, k5, k6, -⟩, ⟨⟨gm1, cm1, hc1⟩, -, ⟨ff, f3, f4⟩, f5⟩, -⟩ := id D1
      have z1 := hc1.1
      unfold MDC at z1
      have hTT : (frT O).flatten.length = sl (frT O) := sl_flat _
      -- where its TEXT lies
      obtain ⟨st, vb, t1, t2⟩ : ∃ st vb : Int32, (∀ (K : Nat → Int32 → Int32 → Option (Int32 × am_S)), (if 0 ≤ vlE e (frT (O.take (x + 1))).length then K 184 (nI k) 0 else (am_gA σ1 10 32 95).bind fun v87 => (am_lI σ1 .int v87 (-2 - vlE e (frT (O.take (x + 1))).length)).bind fun v88 => K 184 (nI k) v88) = K 184 (nI k) st) ∧ ((∀ (σ2 : am_S), Ce g1 σ2 95 (MDC th (nI B.length) gv gm1 cm1 (nI (frT O).length)) → Ce g1 σ2 166 (cI 1700 ff) → ∀ (K : Nat → Int32 → Int32 → Option (Int32 × am_S)), (if 0 ≤ vlE e (frT (O.take (x + 1))).length then K 185 (nI k) (vlE e (frT (O.take (x + 1))).length) else (am_gA σ2 10 32 95).bind fun v83 => (am_lI σ2 .int v83 (-1 - vlE e (frT (O.take (x + 1))).length)).bind fun v84 => (am_gA σ2 10 32 95).bind fun v85 => (am_lI σ2 .int v85 (-2 - vlE e (frT (O.take (x + 1))).length)).bind fun v86 => K 185 (nI k) (-1 - (v84 - v86))) = K 185 (nI k) vb) ∧ match e.2.2.2.1 with
          | some b => vb = nI b ∧ b < 500
          | none => vb = -1 - nI e.2.2.2.2.length ∧ ∃ s0, st = nI s0 ∧ s0 + e.2.2.2.2.length ≤ (frT O).flatten.length ∧ slB (frT O).flatten s0 (s0 + e.2.2.2.2.length) = e.2.2.2.2) := by
        unfold vlE
        cases hb : e.2.2.2.1 with
        | some b =>
          have := hbk b hb
          simp only
          refine ⟨0, nI b, fun K => by rw [if_pos (nI_pos' (by omega))], fun σ2 _ _ K => by rw [if_pos (nI_pos' (by omega))], rfl, by omega⟩
        | none =>
          simp only
          obtain ⟨w1, w2, w3, w4⟩ := fr_at hxO (by rw [he]; exact hb)
          rw [he] at w2
          have hfl := frT_le O
          obtain ⟨y1, y2, y3⟩ := m12 (frT (O.take x)).length (by omega)
          have e1 := f4 (frT (O.take x)).length (by omega)
          have e2 := f4 ((frT (O.take x)).length + 1) (by omega)
          rw [w3] at e1
          rw [w2, sl_app, sl_one] at e2
          have hle : sl (frT (O.take x)) + e.2.2.2.2.length ≤ sl (frT O) := by
            have := sl_take_le (frT O) ((frT (O.take x)).length + 1)
            rw [w2, sl_app, sl_one] at this
            exact this
          rw [w1]
          refine ⟨nI (sl (frT (O.take x))), -1 - nI e.2.2.2.2.length, fun K => ?_, fun σ2 hc2 hf2 K => ?_, rfl, sl (frT (O.take x)), rfl, by omega, ?_⟩
          · rw [if_neg y1, gA_of z1 (k := 32) rfl, Option.bind_some, y2, lI_of f3.1 (by omega) (by omega), Option.bind_some, e1]
          · have z2 := hc2.1
            unfold MDC at z2
            rw [if_neg y1, gA_of z2 (k := 32) rfl, Option.bind_some, y3, lI_of hf2.1 (by omega) (by omega), Option.bind_some, Option.bind_some, y2, lI_of hf2.1 (by omega) (by omega), Option.bind_some, e1, e2, nI_sub (by omega), Nat.add_sub_cancel_left]
          · have hlt : (frT (O.take x)).length < (frT O).length := by omega
            have h1 := slB_flat (B := frT O) hlt
            rw [w3, w2, sl_app, sl_one] at h1
            rw [h1]
            have h2 : (frT O).take ((frT (O.take x)).length + 1) = (frT O).take (frT (O.take x)).length ++ [(frT O)[(frT (O.take x)).length]] := List.take_succ_eq_append_getElem hlt
            rw [w2, w3] at h2
            exact (List.singleton_inj.mp (List.append_cancel_left h2)).symm
      obtain ⟨t2, t3⟩ := t2
      -- the rows written
      obtain ⟨σ2, b1, b2, b3⟩ := (Q5.fo a3 (by omega)).si (v := st) (i := k) (by omega) (by omega) (by omega)
      have hc2 := hc1.fo b3 (by omega)
      have z2 := hc2.1
      unfold MDC at z2
      obtain ⟨σ3, c1, c2, c3⟩ := ((Q6.fo a3 (by omega)).fo b3 (by omega)).si (v := vb) (i := k) (by omega) (by omega) (by omega)
      have hc3 := hc2.fo c3 (by omega)
      have z3 := hc3.1
      unfold MDC at z3
      have W3 : Fo SET g σ g1 σ3 := (a3.mono fun a ha => ⟨by omega, by omega⟩).trans ((b3.mono fun a ha => ⟨by omega, by omega⟩).trans (c3.mono fun a ha => ⟨by omega, by omega⟩))
      have D3 := hD.fo2 W3 fun a ha => by omega
      have R3 := hR.fo W3 fun a _ _ => by omega
      obtain ⟨-, -, -, -, u5, u6⟩ := Ps_val R3 (k := k) hkr
      rw [hent] at u6
      simp only at u6
      have P3 := (a2.fo b3 fun a _ _ => by omega).fo c3 fun a _ _ => by omega
      have hL3 : k < (Q ++ [(op O x, (vlE e (frT (O.take (x + 1))).length, nI x, (-1 : Int32)), e.2.2.1)]).length := by rw [List.length_append, Q2]; simp
      -- the three numbers
      generalize hb0 : (if e.2.2.1 = true then oI (e.1.1.map (valN P0)) else -1) = n0
      generalize hb1 : (if e.2.2.1 = true then oI (e.1.2.1.map (valN P1)) else -1) = n1
      generalize hb2 : (if e.2.2.1 = true then oI (e.1.2.2.map (valN P2)) else -1) = n2
      obtain ⟨d1, σ4, d2, d3, d4⟩ := Ps_setV (c := 0) (v := n0) P3 hL3 (by omega)
      have hL4 : k < ((Q ++ [(op O x, (vlE e (frT (O.take (x + 1))).length, nI x, (-1 : Int32)), e.2.2.1)]).set k (setV (Q ++ [(op O x, (vlE e (frT (O.take (x + 1))).length, nI x, (-1 : Int32)), e.2.2.1)])[k] 0 n0)).length := by rw [List.length_set]; exact hL3
      have hlast : ∀ (y : Pe) (h : k < (Q ++ [y]).length), (Q ++ [y])[k] = y := fun y h => by
        rw [List.getElem_append_right (by omega)]
        simp [Q2]
      have hset : ∀ y y' : Pe, (Q ++ [y]).set k y' = Q ++ [y'] := fun y y' => by
        rw [List.set_append_right _ _ (by omega)]
        simp [Q2]
      rw [hlast, hset] at d3
      obtain ⟨l1', σ5, l2', l3', l4'⟩ := Ps_setV (c := 1) (v := n1) d3 (k := k) (by rw [List.length_append, Q2]; simp) (by omega)
      rw [hlast, hset] at l3'
      obtain ⟨o1, σ6, o2, o3, o4⟩ := Ps_setV (c := 2) (v := n2) l3' (k := k) (by rw [List.length_append, Q2]; simp) (by omega)
      rw [hlast, hset] at o3
      have W4 : Fo SET g1 σ3 g1 σ4 := d4.mono fun a ha => ⟨by omega, by omega⟩
      have W5 : Fo SET g1 σ4 g1 σ5 := l4'.mono fun a ha => ⟨by omega, by omega⟩
      have W6 : Fo SET g1 σ5 g1 σ6 := o4.mono fun a ha => ⟨by omega, by omega⟩
      have D4 := D3.fo2 W4 fun a ha => by omega
      have D5 := D4.fo2 W5 fun a ha => by omega
      have D6 := D5.fo2 W6 fun a ha => by omega
      have WW : Fo SET g σ g1 σ6 := W3.trans (W4.trans (W5.trans W6))
      have z4 := (hc3.fo d4 (by omega)).1
      have z5 := ((hc3.fo d4 (by omega)).fo l4' (by omega)).1
      unfold MDC at z4 z5
      have efin : setV (setV (setV (op O x, (vlE e (frT (O.take (x + 1))).length, nI x, (-1 : Int32)), e.2.2.1) 0 n0) 1 n1) 2 n2 = (op O x, (n0, n1, n2), e.2.2.1) := rfl
      rw [efin] at o3
      have SQ6 : SQ g1 σ6 P0 P1 P2 O I (k + 1) := by
        have WT : Fo (fun a => 176 ≤ a ∧ a ≤ 181) g1 σ3 g1 σ6 := (d4.mono fun a ha => ⟨by omega, by omega⟩).trans ((l4'.mono fun a ha => ⟨by omega, by omega⟩).trans (o4.mono fun a ha => ⟨by omega, by omega⟩))
        refine ⟨_, _, _, o3, by rw [List.length_append, Q2]; rfl, ?_, (((Q4.fo a3 (by omega)).fo b3 (by omega)).fo c3 (by omega)).fo WT (by omega), (b2.fo c3 (by omega)).fo WT (by omega), c2.fo WT (by omega), fun i h h' h'' => ?_⟩
        · rw [pts_app, Q3, List.take_succ_eq_append_getElem hk, List.map_append, hx]
          rfl
        · by_cases ei : i = k
          · subst ei
            rw [hlast, uf_same, uf_same]
            simp only [hx, he]
            refine ⟨rfl, rfl, ?_, ?_⟩
            · show (n0, n1, n2) = if e.2.2.1 = true then (oI (e.1.1.map (valN P0)), oI (e.1.2.1.map (valN P1)), oI (e.1.2.2.map (valN P2))) else (-1, -1, -1)
              rw [← hb0, ← hb1, ← hb2]
              by_cases hu : e.2.2.1 = true
              · simp only [if_pos hu]
              · simp only [if_neg hu]
            · have er : rcB (orc P0 P1 P2 e) = e.2.2.2.1 := rfl
              have et : rcT (orc P0 P1 P2 e) = e.2.2.2.2 := rfl
              rw [er, et]
              exact t3
          · have hi : i < Q.length := by
              rw [List.length_append, List.length_singleton] at h'
              omega
            rw [uf_ne ei, uf_ne ei, List.getElem_append_left hi]
            exact Q7 i h hi h''
      have hun : ((I.take (k + 1)).map (uo O)).sum = ((I.take k).map (uo O)).sum + (if e.2.2.1 = true then 1 else 0) := by
        rw [List.take_succ_eq_append_getElem hk, List.map_append, List.sum_append_nat, hx]
        have : uo O x = if e.2.2.1 = true then 1 else 0 := by
          unfold uo
          rw [List.getElem?_eq_getElem hxO, he]
          simp
        simp [this]
      obtain ⟨g', σ', y1, y2, y3, y4, y5⟩ := ih (k + 1) g1 σ6 D6 (hR.fo WW fun a _ _ => by omega) SQ6 (by omega) (by omega)
      refine ⟨g', σ', ?_, y2, y3, y4, WW.trans y5⟩
      rw [← y1]
      obtain ⟨-, -, ⟨fb, B1, B1'⟩, ⟨fo, B2, B2'⟩, ⟨ft, B3, B3'⟩⟩ := D3.2
      obtain ⟨-, ⟨fo4, C2, C2'⟩, -⟩ := D4.2.2.2
      obtain ⟨-, -, ⟨ft5, C3, C3'⟩⟩ := D5.2.2.2
      have hn0 := B1' x hxO
      have hn1' := C2' x hxO
      have hn2 := C3' x hxO
      rw [he] at hn0 hn1' hn2
      have hx17 : x < 1700 := by omega
      have i0 : nI (3 * k) = nI (3 * k + 0) := rfl
      have i32 : nI (3 * k) + 2 = nI (3 * k + 2) := nI_add (3 * k) 2
      -- last number
      have s3 : ∀ (xu : Int32), f_Md_merge_j276 F 95 xu (nI k) (nI x) (bo e.2.2.1) 180 (nI (3 * k + 1)) n1 (fun y1 y2 τ => f_Md_merge_l53 F 95 m y1 y2 τ) σ4 = f_Md_merge_l53 F 95 m xu (nI (k + 1)) σ6 := by
        intro xu
        unfold f_Md_merge_j276 f_Md_merge_j303
        rw [l2', Option.bind_some, gA_of z5 (k := 38) rfl, Option.bind_some, o1, Option.bind_some, i3, i32]
        simp only [bo_0]
        cases hu : e.2.2.1 with
        | false =>
          rw [hu, if_neg Bool.false_ne_true] at hb2
          rw [if_pos rfl, hb2, o2, Option.bind_some, nI_1]
        | true =>
          rw [hu, if_pos rfl] at hb2
          rw [if_neg (by decide)]
          have := Md_num (K := fun v => (am_sI σ5 180 (nI (3 * k + 2)) v).bind fun σ68 => f_Md_merge_l53 F 95 m xu (nI k + 1) σ68) D5.1.2.2.2.2.2.1 v2 (gA_of z5 (k := 22) rfl) (gA_of z5 (k := 36) rfl) C3 hx17 hn2 l2 hgk.2.2
          rw [hb2] at this
          rw [this, o2, Option.bind_some, nI_1]
      have s2 : ∀ (xu : Int32), f_Md_merge_j229 F 95 xu (nI k) (nI x) (bo e.2.2.1) 180 (nI (3 * k)) n0 (fun y1 y2 τ => f_Md_merge_l53 F 95 m y1 y2 τ) σ3 = f_Md_merge_l53 F 95 m xu (nI (k + 1)) σ6 := by
        intro xu
        rw [← s3 xu]
        unfold f_Md_merge_j229 f_Md_merge_j256
        rw [i0, d2, Option.bind_some, gA_of z4 (k := 38) rfl, Option.bind_some, l1', Option.bind_some, i3, i31]
        simp only [bo_0]
        cases hu : e.2.2.1 with
        | false =>
          rw [hu, if_neg Bool.false_ne_true] at hb1
          rw [if_pos rfl, hb1]
        | true =>
          rw [hu, if_pos rfl] at hb1
          rw [if_neg (by decide)]
          have := Md_num (K := fun v => f_Md_merge_j276 F 95 xu (nI k) (nI x) (bo true) 180 (nI (3 * k + 1)) v (fun y1 y2 τ => f_Md_merge_l53 F 95 m y1 y2 τ) σ4) D4.1.2.2.2.2.1 v1 (gA_of z4 (k := 21) rfl) (gA_of z4 (k := 35) rfl) C2 hx17 hn1' l1 hgk.2.1
          rw [hb1] at this
          exact this
      have s1 : ∀ (xu : Int32), f_Md_merge_j185 F 95 xu (nI k) (nI x) (bo e.2.2.1) (fun y1 y2 τ => f_Md_merge_l53 F 95 m y1 y2 τ) σ3 = f_Md_merge_l53 F 95 m xu (nI (k + 1)) σ6 := by
        intro xu
        rw [← s2 xu]
        unfold f_Md_merge_j185 f_Md_merge_j209
        rw [gA_of z3 (k := 38) rfl, Option.bind_some, d1, Option.bind_some, i3]
        simp only [bo_0]
        cases hu : e.2.2.1 with
        | false =>
          rw [hu, if_neg Bool.false_ne_true] at hb0
          rw [if_pos rfl, hb0]
        | true =>
          rw [hu, if_pos rfl] at hb0
          rw [if_neg (by decide)]
          have := Md_num (K := fun v => f_Md_merge_j229 F 95 xu (nI k) (nI x) (bo true) 180 (nI (3 * k)) v (fun y1 y2 τ => f_Md_merge_l53 F 95 m y1 y2 τ) σ3) D3.1.2.2.2.1 v0 (gA_of z3 (k := 20) rfl) (gA_of z3 (k := 34) rfl) B1 hx17 hn0 l0 hgk.1
          rw [hb0] at this
          exact this
      have s0 : f_Md_merge_j165 F 95 (nI ((I.take k).map (uo O)).sum) (nI k) (nI x) 185 (nI k) vb (fun y1 y2 τ => f_Md_merge_l53 F 95 m y1 y2 τ) σ2 = f_Md_merge_l53 F 95 m (nI ((I.take (k + 1)).map (uo O)).sum) (nI (k + 1)) σ6 := by
        unfold f_Md_merge_j165
        rw [c1, Option.bind_some, gA_of z3 (k := 24) rfl, Option.bind_some, u5, Option.bind_some, u6, Option.bind_some, s1, s1, hun]
        simp only [bo_0]
        cases e.2.2.1 with
        | false => rw [if_pos rfl]; rfl
        | true => rw [if_neg (by decide), nI_1]; rfl
      have s00 : f_Md_merge_j127 F 95 (nI ((I.take k).map (uo O)).sum) (nI k) (nI x) (vlE e (frT (O.take (x + 1))).length) 184 (nI k) st (fun y1 y2 τ => f_Md_merge_l53 F 95 m y1 y2 τ) σ1 = f_Md_merge_l53 F 95 m (nI ((I.take (k + 1)).map (uo O)).sum) (nI (k + 1)) σ6 := by
        unfold f_Md_merge_j127
        rw [b1, Option.bind_some, gA_of z2 (k := 41) rfl, Option.bind_some]
        have := t2 σ2 hc2 (f3.fo b3 (by omega)) (fun a b c => f_Md_merge_j165 F 95 (nI ((I.take k).map (uo O)).sum) (nI k) (nI x) a b c (fun y1 y2 τ => f_Md_merge_l53 F 95 m y1 y2 τ) σ2)
        rw [s0] at this
        exact this
      simp only [Option.bind_some, r1, i3, i31, r3, r2, gA_of z (k := 38) rfl, a1, gA_of z1 (k := 40) rfl]
      have := t1 (fun a b c => f_Md_merge_j127 F 95 (nI ((I.take k).map (uo O)).sum) (nI k) (nI x) (vlE e (frT (O.take (x + 1))).length) a b c (fun y1 y2 τ => f_Md_merge_l53 F 95 m y1 y2 τ) σ1)
      rw [s00] at this
      exact this
end MG
theorem uct_uo (P0 P1 P2 : PL) : ∀ O : List Og, uct (O.map (orc P0 P1 P2)) = ((List.range' 0 O.length).map (uo O)).sum := by
  intro O
  have key : ∀ n, n ≤ O.length → ((List.range' 0 n).map (uo O)).sum = uct ((O.take n).map (orc P0 P1 P2)) := by
    intro n
    induction n with
    | zero => intro _; rfl
    | succ n ih =>
      intro h
      rw [← List.range'_append_1, List.map_append, List.sum_append_nat, ih (by omega), List.take_succ_eq_append_getElem (show n < O.length by omega), List.map_append, uct_app]
      congr 1
      have : uo O n = if O[n].2.2.1 = true then 1 else 0 := by
        unfold uo
        rw [List.getElem?_eq_getElem (show n < O.length by omega)]
        simp
      simp [this, uct, orc]
  rw [key O.length (Nat.le_refl _), List.take_length]
section MH
variable {g : Gh} {σ : am_S} {F : Nat} {th : Int32} {s : MSS}
theorem Md_merge (h : MDI g σ th s) (hw : MSW s) (hz : MSZ s) (hF : 131072 < F) : ∃ g' σ' v, f_Md_merge F σ 95 = some (v, σ') ∧ MDI g' σ' (opMerge s).1 (opMerge s).2.2 ∧ ((opMerge s).1 = 0 → v = (opMerge s).2.1) ∧ Fo MT g σ g' σ' := by
  obtain ⟨σ1, σ3, q1, q2, q3, q4, q5, fs, q6⟩ := Md_start1 (F := F) h
  obtain ⟨as, inp, B, P, R⟩ := s
  have q5' : Fo MT g σ g σ3 := q5.mono fun a ha => ⟨by omega, by omega⟩
  simp only at q2 q3 q4
  unfold f_Md_merge
  rw [am_ck_of q6, q1, Option.bind_some, q2]
  simp only [am_b2, Option.bind_some]
  obtain ⟨_, _, -, -, -, -, -, hal⟩ := id q4
  by_cases c : as.length = 0
  · rw [if_pos (show nI as.length = 0 by rw [c]; rfl)]
    have hw' : MSW ([], inp, B, P, R) := by
      refine ⟨fun x hx => ?_, hw.2⟩
      exact hw.1 x (List.mem_append_right _ (by simpa using hx))
    have hz' : MSZ ([], inp, B, P, R) := by
      refine ⟨?_, hz.2⟩
      have := hz.1
      simp only at this ⊢
      have e : sl ([] : List (List Int32)) = 0 := rfl
      omega
    obtain ⟨g4, σ4, I, a1, a2, a3⟩ := Md_mergeMaps (F := F) q3 hw' hz' hF
    have a2' : Fo MT g σ g4 σ4 := q5'.trans (a2.mono fun a ha => by unfold MQT at ha; exact ⟨by omega, by omega⟩)
    unfold opMerge
    simp only
    rw [if_pos c]
    cases hm : mrgM B (P 0) (P 1) (P 2) with
    | none =>
      rw [hm] at a3
      simp only at a3 ⊢
      rw [a3]
      obtain ⟨σ5, b1, b2, b3⟩ := a1.refused (F := F)
      simp only [am_bt, am_btf, Option.bind_some, if_true, b1]
      exact ⟨g4, σ5, 0, rfl, b2, fun q => absurd (show (2 : Int32) = 0 from q) (by decide), a2'.trans (b3.mono fun a ha => ⟨by omega, by omega⟩)⟩
    | some x =>
      rw [hm] at a3
      obtain ⟨c1, c2, c3, c4, c5, c6, c7⟩ := a3
      simp only
      rw [c1]
      simp only [am_bt, am_btf, Option.bind_some]
      obtain ⟨t0, v0, -⟩ := hw.2.1 0 (by omega)
      obtain ⟨t1, v1, -⟩ := hw.2.1 1 (by omega)
      obtain ⟨t2, v2, -⟩ := hw.2.1 2 (by omega)
      obtain ⟨l0, p0⟩ := hz.2.1 0 (by omega)
      obtain ⟨l1, p1⟩ := hz.2.1 1 (by omega)
      obtain ⟨l2, p2⟩ := hz.2.1 2 (by omega)
      simp only at t0 v0 t1 v1 t2 v2 l0 p0 l1 p1 l2 p2
      have hsum := (gph2_ni (B := B) (P0 := P 0) (P1 := P 1) (P2 := P 2) t0 (P 2).length).sum (B := B) (P0 := P 0) (P1 := P 1) (P2 := P 2) grps_ok
      have hsum' : sl (ogP (ogs B (P 0) (P 1) (P 2) (grps B (P 0) (P 1) (P 2)))) ≤ pl (P 1) + pl (P 2) := hsum
      have hok : ∀ e ∈ ogs B (P 0) (P 1) (P 2) (grps B (P 0) (P 1) (P 2)), gOK (P 0) (P 1) (P 2) e.1 ∧ ∀ k, e.2.2.2.1 = some k → k < B.length := by
        intro e he
        obtain ⟨y, h1, h2, h3⟩ := og_in he
        have hgk := grps_ok e.1 h1
        refine ⟨hgk, fun k hk => ?_⟩
        rw [h3] at hk
        exact (gtxt_ok (grec_ok v0 v1 v2 t1 t2 hgk h2).2 hk).1
      have hBo := ogs_B (B := B) v0 v1 v2 t1 t2 (grps_ok (B := B) (P0 := P 0) (P1 := P 1) (P2 := P 2))
      have hb5 := c2.1.2.2.1.2.1
      generalize hO : ogs B (P 0) (P 1) (P 2) (grps B (P 0) (P 1) (P 2)) = O at c2 c3 c4 c5 c7 hsum' hok hBo
      obtain ⟨gm4, cm4, fm4, e1⟩ := a1.2.2.1
      have z4 := e1.1
      unfold MDC at z4
      obtain ⟨Qs, Ts, sf, sb, s1, s2, s3, s4, -⟩ := a1.2.2.2.2.2.2.2.2.2.2
      obtain ⟨σ5, d1, d2, d3⟩ := Ps_clear (F := F) s1
      have z5 := (e1.fo d3 (by omega)).1
      unfold MDC at z5
      have D5 := c2.fo2 d3 fun a ha => by omega
      have hfl : (frT O).flatten.length ≤ 65536 := by
        rw [sl_flat]
        exact c2.2.1.2.2.2
      obtain ⟨g6, σ6, f1, f2, f3⟩ := Ro_set (F := F) (s2.fo d3 (by omega)) D5.2.1.2.1 (by omega) hfl hF
      have W6 : Fo SET g4 σ4 g6 σ6 := (d3.mono fun a ha => ⟨by omega, by omega⟩).trans (f3.mono fun a ha => ⟨by omega, by omega⟩)
      have D6 := c2.fo2 W6 fun a ha => by omega
      have R6 := c3.fo W6 fun a _ _ => by omega
      have SQ6 : SQ g6 σ6 (P 0) (P 1) (P 2) O I 0 := ⟨[], sf, sb, d2.fo f3 fun a _ _ => by omega, rfl, rfl, f2, (s3.fo d3 (by omega)).fo f3 (by omega), (s4.fo d3 (by omega)).fo f3 (by omega), fun i h h' => absurd h' (by simp)⟩
      obtain ⟨g7, σ7, y1, y2, y3, y4, y5⟩ := Md_l53 (F := F) v0 v1 v2 l0 l1 l2 hb5 hok hBo c4 c5 c6 (by omega) hF F 0 g6 σ6 D6 R6 SQ6 (by omega) (by omega)
      rw [gA_of z4 (k := 38) rfl, Option.bind_some, d1, Option.bind_some, gA_of z5 (k := 39) rfl, Option.bind_some, gA_of z5 (k := 30) rfl, Option.bind_some, f1]
      simp only [am_b2, Option.bind_some]
      rw [show f_Md_merge_l53 F 95 F 0 0 σ6 = _ from y1]
      have hpm : I.Perm (List.range' 0 O.length) := (List.perm_ext_iff_of_nodup (c4.nodup hBo) (List.nodup_range' 1)).mpr fun a => by
        rw [mem_range']
        constructor
        · intro ha
          have := c4.1 a ha
          omega
        · intro ha
          exact nd_all (c4.nodup hBo) c4.1 (by omega) (by omega)
      have huct : uct x.2 = (I.map (uo O)).sum := by
        rw [c7]
        simp only
        rw [uct_uo, (hpm.map _).sum_nat]
      have W7 := W6.trans y5
      refine ⟨g7, σ7, _, rfl, ?_, fun _ => by rw [huct], a2'.trans (W7.mono fun a ha => ⟨by omega, by omega⟩)⟩
      obtain ⟨m1, m2, -, m4, m5, m6, m7, m8, m9, ⟨Qn, m10⟩, -⟩ := a1
      obtain ⟨n7, ⟨gm7, cm7, n8⟩⟩ := And.intro y2.1 y2.2.1.1
      refine ⟨m1.fo W7, m2.fo m1 W7 fun a ha => by omega, ⟨_, _, _, n8⟩, m4.fo W7 (by omega), m5.fo W7 (by omega) (by omega), m6.fo W7 (by omega), m7.fo W7 fun a _ _ => by omega, fun k hk => (m8 k hk).fo W7 fun a _ _ => by omega, m9.fo W7 fun a _ _ => by omega, ⟨Qn, m10.fo W7 fun a _ _ => by omega⟩, ?_⟩
      obtain ⟨Q, sf7, sb7, r1, r2, r3, r4, r5, r6, r7⟩ := y4
      simp only
      rw [c7]
      refine ⟨Q, _, sf7, sb7, r1, r4, r5, r6, by rw [r2]; simp [iP], fun i hi hi' => ?_⟩
      have hiI : i < I.length := by simpa [iP] using hi
      have hIO := c4.1 _ (List.getElem_mem hiI)
      have := r7 i hiI hi' hIO
      have ep : (iP O I)[i].1 = op O I[i] := by simp [iP]
      have er : snR (iP O I) (O.map (orc (P 0) (P 1) (P 2))) i = orc (P 0) (P 1) (P 2) O[I[i]] := by
        unfold snR
        have e2 : (iP O I).getD i ([], 0) = (op O I[i], nI I[i]) := by simp [iP, hiI]
        rw [e2]
        simp only
        rw [nI_clamp (by omega)]
        simp [hIO]
      rw [ep, er]
      exact this
  · rw [if_neg (by
      rw [show (0 : Int32) = nI 0 from rfl, nI_eq (by omega) (by omega)]
      exact c)]
    obtain ⟨σ4, b1, b2, b3⟩ := q3.bad (F := F)
    rw [b1]
    have eo : opMerge (as, inp, B, P, R) = (1, 0, ([], inp, B, P, R)) := by unfold opMerge; simp only; rw [if_neg c]
    rw [eo]
    exact ⟨g, σ4, 0, rfl, b2, fun q => absurd (show (1 : Int32) = 0 from q) (by decide), q5'.trans (b3.mono fun a ha => ⟨by omega, by omega⟩)⟩
end MH
