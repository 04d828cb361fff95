/-! ===== L3: the reference: what becomes of a group, whole ===== -/
theorem frT_b {O : List Og} {e : Og} {k : Nat} (h : e.2.2.2.1 = some k) : frT (O ++ [e]) = frT O := by rw [frT_snoc, h]; simp
theorem frT_n {O : List Og} {e : Og} (h : e.2.2.2.1 = none) : frT (O ++ [e]) = frT O ++ [e.2.2.2.2] := by rw [frT_snoc, h]; simp
section DF
variable {g : Gh} {F : Nat} {th gv : Int32} {B : List (List Int32)} {P0 P1 P2 : PL} {O : List Og} {σ : am_S}
theorem Md_de8 {p : Option Nat} {ia ib : Nat} {u w : Bool} {e : Og} (hE : EV g σ B P0 P1 P2) (hFI : FI g σ th (nI B.length) gv (frT (O ++ [e]))) (hOI : OI g σ O) (hg : gOK P0 P1 P2 (p, some ia, some ib)) (he1 : e.1 = (p, some ia, some ib)) (he2 : e.2.1 = if w = true then pth P2 ib else pth P1 ia) (he3 : e.2.2.1 = u) (hO : O.length < 1300) (hl : sl (ogP O) + e.2.1.length ≤ 65536) (hF : 131072 < F) :
    ∃ g' σ', f_Md_decide_j349 F 95 (oI p) (nI ia) (nI ib) (bo u) (bo w) (vlE e (frT (O ++ [e])).length) σ = some (.inr (), σ') ∧ DCI g' σ' th gv B P0 P1 P2 (O ++ [e]) ∧ Fo DT g σ g' σ' := by
  obtain ⟨⟨gm, cm, hc⟩, -⟩ := id hFI
  have z := hc.1
  unfold MDC at z
  obtain ⟨-, -, -, -, h1, h2, -⟩ := id hE
  have ha := hg.2.1 ia rfl
  have hb := hg.2.2 ib rfl
  unfold f_Md_decide_j349 f_Md_decide_j366 f_Md_decide_j376
  cases w with
  | false =>
    rw [if_neg Bool.false_ne_true] at he2
    rw [he2] at hl
    obtain ⟨g1, σ1, q1, q2, q3⟩ := Md_de9 (F := F) hE hFI hOI h1 (Or.inl rfl) ha he2 he1 hO hl hF
    rw [he3] at q1
    simp only [oI_some] at q1
    rw [if_pos (show bo false = 0 by decide), gA_of z (k := 21) rfl, Option.bind_some, if_pos (show bo false = 0 by decide), q1]
    exact ⟨g1, σ1, rfl, q2, q3⟩
  | true =>
    rw [if_pos rfl] at he2
    rw [he2] at hl
    obtain ⟨g1, σ1, q1, q2, q3⟩ := Md_de9 (F := F) hE hFI hOI h2 (Or.inr rfl) hb he2 he1 hO hl hF
    rw [he3] at q1
    simp only [oI_some] at q1
    rw [if_neg (show ¬ bo true = 0 by decide), gA_of z (k := 22) rfl, Option.bind_some, if_neg (show ¬ bo true = 0 by decide), q1]
    exact ⟨g1, σ1, rfl, q2, q3⟩
/-- what a call leaves: refused, or an OUTCOME more -/
def DRes (E : Option ((Nat ⊕ Unit) × am_S)) (g : Gh) (σ : am_S) (th gv : Int32) (B : List (List Int32)) (P0 P1 P2 : PL) (O O' : List Og) : Prop := (65536 < sl (frT O') → ∃ g' σ', E = some (.inl 1, σ') ∧ DCI g' σ' th gv B P0 P1 P2 O ∧ Fo DT g σ g' σ') ∧ (sl (frT O') ≤ 65536 → ∃ g' σ', E = some (.inr (), σ') ∧ DCI g' σ' th gv B P0 P1 P2 O' ∧ Fo DT g σ g' σ')
theorem Md_de7 {s0 : Option Nat} {p : Option Nat} {ia ib x y : Nat} {u w : Bool} (hD : DCI g σ th gv B P0 P1 P2 O) (hg : gOK P0 P1 P2 (p, some ia, some ib)) (hs0 : ∀ k, s0 = some k → k < B.length) (hx : x < B.length) (hy : y < B.length) (hBl : ∀ t ∈ B, t.length ≤ 4096) (hO : O.length < 1300) (hl : sl (ogP O) + (if w = true then pth P2 ib else pth P1 ia).length ≤ 65536) (hF : 131072 < F) :
    DRes (f_Md_decide_j256 F 95 (oI p) (nI ia) (nI ib) (oI s0) (nI x) (nI y) (bo u) (bo w) σ) g σ th gv B P0 P1 P2 O (O ++ [((p, some ia, some ib), (if w = true then pth P2 ib else pth P1 ia), gtxt B (s0, some x, some y) u)]) := by
  obtain ⟨hE, hFI, hOI⟩ := id hD
  have hb5 := hE.2.2.1.2.1
  have hsl := hFI.2.2.2
  have same : ∀ k : Nat, gtxt B (s0, some x, some y) u = (u, some k, B.getD k []) → DRes (f_Md_decide_j349 F 95 (oI p) (nI ia) (nI ib) (bo u) (bo w) (nI k) σ) g σ th gv B P0 P1 P2 O (O ++ [((p, some ia, some ib), (if w = true then pth P2 ib else pth P1 ia), gtxt B (s0, some x, some y) u)]) := by
    intro k hk
    rw [hk]
    have hfr : frT (O ++ [((p, some ia, some ib), (if w = true then pth P2 ib else pth P1 ia), (u, some k, B.getD k []))]) = frT O := frT_b rfl
    refine ⟨fun c => by rw [hfr] at c; omega, fun _ => ?_⟩
    exact Md_de8 (F := F) (e := ((p, some ia, some ib), (if w = true then pth P2 ib else pth P1 ia), (u, some k, B.getD k []))) hE (by rw [hfr]; exact hFI) hOI hg rfl rfl rfl hO hl hF
  have es0 : ∀ {k : Nat}, k < B.length → ((nI k = oI s0) ↔ s0 = some k) := by
    intro k hk
    cases s0 with
    | none =>
      constructor
      · intro e
        have := nI_pos' (n := k) (by omega)
        rw [e] at this
        exact absurd this (by decide)
      · intro e; cases e
    | some j =>
      have := hs0 j rfl
      rw [oI_some, nI_eq (by omega) (by omega)]
      constructor
      · intro e; rw [e]
      · intro e; cases e; rfl
  unfold f_Md_decide_j256
  simp only [nI_eq (show x < 2 ^ 31 by omega) (show y < 2 ^ 31 by omega), es0 hx, es0 hy]
  by_cases c1 : x = y
  · rw [if_pos c1]
    exact same x (by simp only [gtxt]; rw [if_pos (Or.inl c1)])
  · rw [if_neg c1]
    by_cases c2 : s0 = some y
    · rw [if_pos c2]
      exact same x (by simp only [gtxt]; rw [if_pos (Or.inr c2)])
    · rw [if_neg c2]
      by_cases c3 : s0 = some x
      · rw [if_pos c3]
        exact same y (by simp only [gtxt]; rw [if_neg (by rintro (q | q); exact c1 q; exact c2 q), if_pos c3])
      · rw [if_neg c3]
        have hE' := id hE
        obtain ⟨k1, k2, k3, k4, k5, k6, k7, k8, t, k9⟩ := hE
        obtain ⟨⟨gm, cm, hc⟩, -⟩ := id hFI
        have z := hc.1
        unfold MDC at z
        obtain ⟨ts, hT⟩ := k8.t3
        obtain ⟨g1, σ1, a1, a2, a3⟩ := Md_blobText (F := F) (b := s0) (j := 0) hc k3 hT (by omega) hs0 hBl hF
        have hc1 := hc.fo a3 (by omega)
        have z1 := hc1.1
        unfold MDC at z1
        obtain ⟨g2, σ2, b1, b2, b3⟩ := Md_blobText (F := F) (b := some x) (j := 1) hc1 (k3.fo a3 (by omega) (by omega)) a2 (by omega) (fun k hk => by cases hk; exact hx) hBl hF
        have hc2 := hc1.fo b3 (by omega)
        have z2 := hc2.1
        unfold MDC at z2
        obtain ⟨g3, σ3, d1, d2, d3⟩ := Md_blobText (F := F) (b := some y) (j := 2) hc2 ((k3.fo a3 (by omega) (by omega)).fo b3 (by omega) (by omega)) b2 (by omega) (fun k hk => by cases hk; exact hy) hBl hF
        have hc3 := hc2.fo d3 (by omega)
        have z3 := hc3.1
        unfold MDC at z3
        have W3 : Fo (fun a => 130 ≤ a ∧ a ≤ 134) g σ g3 σ3 := (a3.mono fun a ha => ⟨by omega, by omega⟩).trans ((b3.mono fun a ha => ⟨by omega, by omega⟩).trans (d3.mono fun a ha => ⟨by omega, by omega⟩))
        have S3 := k7.fo W3 fun a ha => by omega
        have hbx : bT B (some x) = B.getD x [] := by rw [bT_some hx, getD_of hx]
        have hby : bT B (some y) = B.getD y [] := by rw [bT_some hy, getD_of hy]
        rw [hbx] at d2
        rw [hby] at d2
        generalize hus : (fun i => if i = 2 then B.getD y [] else if i = 1 then B.getD x [] else if i = 0 then bT B s0 else ts i) = us at d2
        have u0 : us 0 = bT B s0 := by rw [← hus]; rfl
        have u1 : us 1 = B.getD x [] := by rw [← hus]; rfl
        have u2 : us 2 = B.getD y [] := by rw [← hus]; rfl
        have hln : ∀ j, j < 3 → (us j).length ≤ 4096 := by
          intro j hj
          have : j = 0 ∨ j = 1 ∨ j = 2 := by omega
          rcases this with rfl | rfl | rfl
          · rw [u0]
            cases s0 with
            | none => exact Nat.zero_le _
            | some k => rw [bT_some (hs0 k rfl)]; exact hBl _ (List.getElem_mem _)
          · rw [u1, getD_of hx]; exact hBl _ (List.getElem_mem _)
          · rw [u2, getD_of hy]; exact hBl _ (List.getElem_mem _)
        have k13 := k1.fo W3
        have k23 := k2.fo k1 W3 fun a ha => by omega
        obtain ⟨g4, σ4, e1, e2, e3, e4, e5⟩ := Md_merged (F := F) k13 k23 hc3 d2 S3 (k9.fo W3 (by omega)) hln hF
        rw [u0, u1, u2] at e1 e2 e4
        have hc4 := hc3.fo e5 (by omega)
        have z4 := hc4.1
        unfold MDC at z4
        have W4 : Fo (fun a => (130 ≤ a ∧ a ≤ 141) ∨ a = 164) g σ g4 σ4 := (W3.mono fun a ha => Or.inl ⟨by omega, by omega⟩).trans (e5.mono fun a ha => by omega)
        have FI4 := hFI.fo W4 fun a ha => by omega
        have OI4 := hOI.fo W4 fun a ha => by omega
        have EV4 : EV g4 σ4 B P0 P1 P2 := hE'.fo W4 (fun a ha => by omega) e3 (d2.a.fo e5 fun a _ _ => by omega) ⟨_, e2⟩
        have W4' : Fo DT g σ g4 σ4 := W4.mono fun a ha => by unfold DT; omega
        have q0 := hT.at (j := 0) (by omega)
        have q1 := a2.at (j := 1) (by omega)
        have q2 := b2.at (j := 2) (by omega)
        have n0 : nI 0 = 0 := rfl
        have n1 : nI 1 = 1 := rfl
        have n2 : nI 2 = 2 := rfl
        rw [n0] at q0
        rw [n1] at q1
        rw [n2] at q2
        rw [oI_some] at b1 d1
        rw [gA_of z (k := 8) rfl, Option.bind_some, q0, Option.bind_some, a1, Option.bind_some, gA_of z1 (k := 8) rfl, Option.bind_some, q1, Option.bind_some, b1, Option.bind_some, gA_of z2 (k := 8) rfl, Option.bind_some, q2, Option.bind_some, d1, Option.bind_some, gA_of z3 (k := 31) rfl, Option.bind_some, e1]
        simp only [am_b2, Option.bind_some]
        rw [gA_of z4 (k := 31) rfl, Option.bind_some, bo_or2]
        generalize hcf : (mrgT (bT B s0) (B.getD x []) (B.getD y [])).2 = cf
        generalize hTT : (mrgT (bT B s0) (B.getD x []) (B.getD y [])).1 = TT
        rw [hTT] at e2 e4
        have egt : gtxt B (s0, some x, some y) u = (u || cf, if (u || cf) = true then none else bfnd B TT, TT) := by
          simp only [gtxt]
          rw [if_neg (by rintro (q | q); exact c1 q; exact c2 q), if_neg c3, hcf, hTT]
          cases (u || cf) <;> rfl
        rw [egt]
        have hfO := frT_le O
        have hfr := Md_fresh (F := F) (fl := u || cf) FI4 EV4.2.2.1 e2 (by omega) hF
        cases hb : (if (u || cf) = true then none else bfnd B TT) with
        | some k =>
          rw [hb] at hfr
          simp only at hfr
          have hfT : frT (O ++ [((p, some ia, some ib), (if w = true then pth P2 ib else pth P1 ia), (u || cf, some k, TT))]) = frT O := frT_b rfl
          refine ⟨fun c => by rw [hfT] at c; omega, fun _ => ?_⟩
          rw [hfr]
          obtain ⟨g5, σ5, x1, x2, x3⟩ := Md_de8 (F := F) (u := u || cf) (w := w) (e := ((p, some ia, some ib), (if w = true then pth P2 ib else pth P1 ia), (u || cf, some k, TT))) EV4 (by rw [hfT]; exact FI4) OI4 hg rfl rfl rfl hO hl hF
          exact ⟨g5, σ5, x1, x2, W4'.trans x3⟩
        | none =>
          rw [hb] at hfr
          simp only at hfr
          have hfT : frT (O ++ [((p, some ia, some ib), (if w = true then pth P2 ib else pth P1 ia), (u || cf, none, TT))]) = frT O ++ [TT] := frT_n rfl
          have hsT : sl (frT O ++ [TT]) = sl (frT O) + TT.length := by rw [sl_app, sl_one]
          refine ⟨fun c => ?_, fun c => ?_⟩
          · rw [hfT, hsT] at c
            rw [hfr.1 c]
            exact ⟨g4, σ4, rfl, ⟨EV4, FI4, OI4⟩, W4'⟩
          · rw [hfT, hsT] at c
            obtain ⟨g5, σ5, x1, x2, x3⟩ := hfr.2 c
            rw [x1]
            have OI5 := OI4.fo x3 fun a ha => by omega
            have EV5 : EV g5 σ5 B P0 P1 P2 := EV4.fo x3 (fun a ha => by omega) (EV4.2.2.2.2.2.2.1.re x3 fun a ty n ha hT => by
              have hr := scT_in ha
              have h6 : a = 166 := by omega
              subst h6
              cases ha
              obtain ⟨-, -, ⟨ff, c1, -⟩, -⟩ := id x2
              exact ⟨ff, c1⟩) (EV4.2.2.2.2.2.2.2.1.fo x3 fun a _ _ => by omega) ⟨_, e2.fo x3 (by omega)⟩
            obtain ⟨g6, σ6, y1, y2, y3⟩ := Md_de8 (F := F) (u := u || cf) (w := w) (e := ((p, some ia, some ib), (if w = true then pth P2 ib else pth P1 ia), (u || cf, none, TT))) EV5 (by rw [hfT]; exact x2) OI5 hg rfl rfl rfl hO hl hF
            simp only [hfT] at y1
            exact ⟨g6, σ6, y1, y2, W4'.trans ((x3.mono fun a ha => by unfold DT; omega).trans y3)⟩
theorem Md_decide {p : Gp} (hD : DCI g σ th gv B P0 P1 P2 O) (hg : gOK P0 P1 P2 p) (v0 : VB B P0) (v1 : VB B P1) (v2 : VB B P2) (t0 : Srt P0) (t1 : Srt P1) (t2 : Srt P2) (l0 : P0.length ≤ 400) (l1 : P1.length ≤ 400) (l2 : P2.length ≤ 400) (hBl : ∀ t ∈ B, t.length ≤ 4096) (hO : O.length < 1300) (hl : sl (ogP (O ++ (og B P0 P1 P2 p).toList)) ≤ 65536) (hF : 131072 < F) :
    DRes (f_Md_decide F σ 95 (oI p.1) (oI p.2.1) (oI p.2.2)) g σ th gv B P0 P1 P2 O (O ++ (og B P0 P1 P2 p).toList) := by
  obtain ⟨p, a, b⟩ := p
  obtain ⟨hE, hFI, hOI⟩ := id hD
  obtain ⟨k1, k2, k3, k4, k5, k6, k7, k8, k9⟩ := id hE
  obtain ⟨⟨gm, cm, hc⟩, -⟩ := id hFI
  have hsl := hFI.2.2.2
  have hb5 := k3.2.1
  rw [Md_de1 hc k4 k5 k6 v0 v1 v2 l0 l1 l2 hg]
  have keep : DRes (some (.inr (), σ)) g σ th gv B P0 P1 P2 O (O ++ ([] : List Og)) := by
    rw [List.append_nil]
    exact ⟨fun c => by omega, fun _ => ⟨g, σ, rfl, hD, Fo.refl _ _ _⟩⟩
  have sp : ∀ e : Og, sl (ogP (O ++ [e])) = sl (ogP O) + e.2.1.length := fun e => by
    unfold ogP
    rw [List.map_append, sl_app]
    simp [sl_one]
  have one : ∀ {i mp : Nat} {P : PL} {q : List Int32 × Bool} (hP : Ps g σ mp (mpE P)) (hmp : mp = 103 ∨ mp = 109) (hi : i < P.length) (hv : VB B P), q.1 = pth P i → sl (ogP O) + q.1.length ≤ 65536 → DRes (f_Md_decide_j178 F (oI p) (oI a) (oI b) 95 mp (nI i) (nI (valN P i)) (bo q.2) σ) g σ th gv B P0 P1 P2 O (O ++ [((p, a, b), q.1, (q.2, some (valN P i), B.getD (valN P i) []))]) := by
    intro i mp P q hP hmp hi hv hq hql
    have hfT : frT (O ++ [((p, a, b), q.1, (q.2, some (valN P i), B.getD (valN P i) []))]) = frT O := frT_b rfl
    refine ⟨fun c => by rw [hfT] at c; omega, fun _ => ?_⟩
    obtain ⟨g5, σ5, x1, x2, x3⟩ := Md_de9 (F := F) (p := (p, a, b)) (e := ((p, a, b), q.1, (q.2, some (valN P i), B.getD (valN P i) []))) hE (by rw [hfT]; exact hFI) hOI hP hmp hi hq rfl hO (by rw [← hq]; exact hql) hF
    unfold f_Md_decide_j178
    rw [show f_Md_outcomea F σ 95 mp (nI i) (nI (valN P i)) (bo q.2) (oI p) (oI a) (oI b) = _ from x1]
    exact ⟨g5, σ5, rfl, x2, x3⟩
  cases a with
  | none =>
    cases b with
    | none => rw [if_neg (by simp)]; exact keep
    | some ib =>
      have hb := hg.2.2 ib rfl
      rw [if_pos (by simp), Md_de3 (F := F) (B := B) (P := P2) (mp := 109) (i := ib) hc k4 k6 t0 t2 l0 l2 hb5 v0 v2 hg.1 hb (Or.inr ⟨rfl, rfl, rfl⟩) (fun k hk => by rcases hk with hk | hk <;> cases hk; omega) hF (by rw [if_neg (by decide)]; rfl)]
      by_cases c : (stay P0 P2 p (some ib) && decide (p.map (valN P0) = some (valN P2 ib))) = true
      · have e0 : og B P0 P1 P2 (p, none, some ib) = none := by unfold og grec; simp only; rw [if_pos c]; rfl
        rw [if_pos c, e0]
        exact keep
      · have e0 : og B P0 P1 P2 (p, none, some ib) = some ((p, none, some ib), pth P2 ib, (p.isSome, some (valN P2 ib), B.getD (valN P2 ib) [])) := by unfold og grec; simp only; rw [if_neg c]; rfl
        rw [if_neg c, e0]
        rw [e0, Option.toList_some, sp] at hl
        exact one (q := (pth P2 ib, p.isSome)) k6 (Or.inr rfl) hb v2 rfl hl
  | some ia =>
    have ha := hg.2.1 ia rfl
    rw [if_pos (by simp)]
    cases b with
    | none =>
      rw [Md_de3 (F := F) (B := B) (P := P1) (mp := 103) (i := ia) hc k4 k5 t0 t1 l0 l1 hb5 v0 v1 hg.1 ha (Or.inl ⟨rfl, rfl, rfl⟩) (fun k hk => by rcases hk with hk | hk <;> cases hk; omega) hF (by rw [if_pos rfl]; rfl)]
      by_cases c : (stay P0 P1 p (some ia) && decide (p.map (valN P0) = some (valN P1 ia))) = true
      · have e0 : og B P0 P1 P2 (p, some ia, none) = none := by unfold og grec; simp only; rw [if_pos c]; rfl
        rw [if_pos c, e0]
        exact keep
      · have e0 : og B P0 P1 P2 (p, some ia, none) = some ((p, some ia, none), pth P1 ia, (p.isSome, some (valN P1 ia), B.getD (valN P1 ia) [])) := by unfold og grec; simp only; rw [if_neg c]; rfl
        rw [if_neg c, e0]
        rw [e0, Option.toList_some, sp] at hl
        exact one (q := (pth P1 ia, p.isSome)) k5 (Or.inl rfl) ha v1 rfl hl
    | some ib =>
      have hb := hg.2.2 ib rfl
      obtain ⟨u, w, d1, d2⟩ := Md_de2 (F := F) (x4 := oI (p.map (valN P0))) (x5 := nI (valN P1 ia)) (x6 := nI (valN P2 ib)) hc k4 k5 k6 t0 t1 t2 l0 l1 l2 hg hF
      have e0 : og B P0 P1 P2 (p, some ia, some ib) = some ((p, some ia, some ib), (if w = true then pth P2 ib else pth P1 ia), gtxt B (p.map (valN P0), some (valN P1 ia), some (valN P2 ib)) u) := by
        unfold og
        rw [d2]
        rfl
      rw [e0]
      rw [e0, Option.toList_some, sp] at hl
      simp only [oI_some, Option.map_some]
      rw [d1]
      exact Md_de7 (F := F) (s0 := p.map (valN P0)) hD hg (fun k hk => by
        cases p with
        | none => cases hk
        | some ip => cases hk; exact (v0 ip (hg.1 ip rfl)).1) (v1 ia ha).1 (v2 ib hb).1 hBl hO hl hF
end DF
