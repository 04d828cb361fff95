/-! ===== L3: the reference: put, drop, copy, blob, count ===== -/
/-- sizes -/
def MSZ (s : MSS) : Prop := sl s.1 + s.2.1.length ≤ 16384 ∧ (∀ k, k < 3 → (s.2.2.2.1 k).length ≤ 400 ∧ pl (s.2.2.2.1 k) ≤ 8192) ∧ sl s.2.2.1 ≤ 32768 ∧ (∀ t ∈ s.2.2.1, t.length ≤ 4096) ∧ s.2.2.1.length ≤ 500
theorem MMI.sz {σ : am_S} {s : MSS} (h : MMI σ s) : MSZ s := by
  obtain ⟨-, -, -, h3, h4, -, h6, -⟩ := h
  refine ⟨h3.2.1, fun k hk => ?_, ?_⟩
  · obtain ⟨ls, ss, vs, -, w⟩ := h6 k hk
    exact ⟨w.1, w.2.1⟩
  · obtain ⟨by_, st, ro, fl, lc, wt, ls, ll, lk, lh, lch, -, -, ⟨w1, w2, w3, -⟩, -⟩ := h4
    refine ⟨w2, fun t ht => ?_, w1⟩
    obtain ⟨k, hk, e⟩ := List.mem_iff_getElem.mp ht
    rw [← e]
    exact w3 k hk
theorem in_isM (m : Int32) : (decide (¬ m < 0) && decide (¬ 2 < m)) = isM m := by
  have e : (2 < m) ↔ 3 ≤ m := by
    rw [Int32.lt_iff_toInt_lt, Int32.le_iff_toInt_le]
    have a : (2 : Int32).toInt = 2 := by decide
    have b : (3 : Int32).toInt = 3 := by decide
    rw [a, b]
    omega
  unfold isM
  simp only [e]
theorem ARG.nil {g : Gh} {σ : am_S} {as : List (List Int32)} (h : ARG g σ as) : ARG g σ [] := by
  obtain ⟨A, f, h1, h2, h3, h4, h5, h6⟩ := h
  exact ⟨A, f, h1, h2, h3, fun j hj => absurd hj (by simp), h5, by simp⟩
theorem MPA.at {g : Gh} {σ : am_S} (h : MPA g σ) {k : Nat} (hk : k < 3) : am_lA σ 11 96 (nI k) = some (97 + 6 * k) := by
  obtain ⟨f, h1, h2⟩ := h
  exact lA_of h1.1 hk (by omega) (h2 k hk)
theorem ARG.at {g : Gh} {σ : am_S} {as : List (List Int32)} (h : ARG g σ as) {j : Nat} (hj : j < as.length) : ∃ r, am_lA σ 12 120 (nI j) = some r ∧ (r = 121 ∨ r = 123 ∨ r = 125 ∨ r = 127) ∧ Ro g σ r as[j] := by
  obtain ⟨A, f, h1, h2, h3, h4, h5, h6⟩ := h
  obtain ⟨e1, e2⟩ := h2 j (by omega)
  exact ⟨A j, lA_of h1.1 (by omega) (by omega) e1, e2, h4 j hj⟩
/-- a MAP set to another row -/
theorem MDI.map {g g1 : Gh} {σ σ1 : am_S} {th : Int32} {s : MSS} {k : Nat} {X : PL} (h : MDI g σ th s) (hk : k < 3) (hf : Fo (PsT (97 + 6 * k)) g σ g1 σ1) (hp : Ps g1 σ1 (97 + 6 * k) (mpE X)) : MDI g1 σ1 th (s.1, s.2.1, s.2.2.1, upP s.2.2.2.1 k X, s.2.2.2.2) := by
  obtain ⟨h1, h2, ⟨gm, cm, fm, h3⟩, h4, h5, h6, h7, h8, h9, ⟨Q, h10⟩, h11⟩ := h
  refine ⟨h1.fo hf, h2.fo h1 hf fun a ha z => by omega, ⟨gm, cm, fm, h3.fo hf (by omega)⟩, h4.fo hf (by omega), h5.fo hf (by omega) (by omega), h6.fo hf (by omega), h7.fo hf fun a _ _ z => by omega, fun j hj => ?_, h9.fo hf fun a _ _ z => by omega, ⟨Q, h10.fo hf fun a _ _ z => by omega⟩, h11.fo hf fun a _ _ z => by omega⟩
  simp only [upP]
  by_cases e : j = k
  · subst e; rw [if_pos rfl]; exact hp
  · rw [if_neg e]; exact (h8 j hj).fo hf fun a _ _ z => by omega
theorem MDI.nxt {g g1 : Gh} {σ σ1 : am_S} {th : Int32} {s : MSS} {Y : List Pe} (h : MDI g σ th s) (hf : Fo (PsT 170) g σ g1 σ1) (hp : Ps g1 σ1 170 Y) : MDI g1 σ1 th s := by
  obtain ⟨h1, h2, ⟨gm, cm, fm, h3⟩, h4, h5, h6, h7, h8, h9, -, h11⟩ := h
  exact ⟨h1.fo hf, h2.fo h1 hf fun a ha z => by omega, ⟨gm, cm, fm, h3.fo hf (by omega)⟩, h4.fo hf (by omega), h5.fo hf (by omega) (by omega), h6.fo hf (by omega), h7.fo hf fun a _ _ z => by omega, fun j hj => (h8 j hj).fo hf fun a _ _ z => by omega, h9.fo hf fun a _ _ z => by omega, ⟨Y, hp⟩, h11.fo hf fun a _ _ z => by omega⟩
section MW
variable {g : Gh} {σ : am_S} {F : Nat} {th : Int32} {s : MSS}
/-- all ARGUMENTS taken -/
theorem Md_start1 (h : MDI g σ th s) : ∃ σ1 σ3, am_pI σ 10 0 95 0 = some σ1 ∧ f_Md_takeAll F σ1 95 = some (nI s.1.length, σ3) ∧ MDI g σ3 0 ([], s.2) ∧ ARG g σ3 s.1 ∧ Fo (fun a => a = 95) g σ g σ3 ∧ (∃ fs, σ.2.2 95 = some (.inr (10, fs))) := by
  have hh := h
  obtain ⟨h1, h2, ⟨gm, cm, fm, h3⟩, h4, h5, h6, h7, h8, h9, h10, h11⟩ := h
  obtain ⟨σ1, q1, q2, q3⟩ := Md_th h3 0
  obtain ⟨σ3, t1, t2, t3⟩ := Md_take (F := F) q2
  have W := q3.trans t3
  have hA := h7.fo W fun a _ _ => by omega
  obtain ⟨Q, h10⟩ := h10
  exact ⟨σ1, σ3, q1, t1, ⟨h1.fo W, h2.fo h1 W fun a ha => by omega, ⟨gm, cm, fm, t2⟩, h4.fo W (by omega), h5.fo W (by omega) (by omega), h6.fo W (by omega), hA.nil, fun k hk => (h8 k hk).fo W fun a _ _ => by omega, h9.fo W fun a _ _ => by omega, ⟨Q, h10.fo W fun a _ _ => by omega⟩, h11.fo W fun a _ _ => by omega⟩, hA, W, ⟨_, h3.1⟩⟩
theorem MDI.bad (h : MDI g σ th s) : ∃ σ', f_Md_bad F σ 95 = some (0, σ') ∧ MDI g σ' 1 s ∧ Fo (fun a => a = 95) g σ g σ' := by
  obtain ⟨gm, cm, fm, h3⟩ := h.2.2.1
  obtain ⟨σ', q1, q2, q3⟩ := Md_bad (F := F) h3
  exact ⟨σ', q1, h.rest q3 (fun a ha z => by omega) (bm' := 0) (gv' := 0) q2, q3⟩
theorem MDI.refused (h : MDI g σ th s) : ∃ σ', f_Md_refused F σ 95 = some (0, σ') ∧ MDI g σ' 2 s ∧ Fo (fun a => a = 95) g σ g σ' := by
  obtain ⟨gm, cm, fm, h3⟩ := h.2.2.1
  obtain ⟨σ', q1, q2, q3⟩ := Md_refused (F := F) h3
  exact ⟨σ', q1, h.rest q3 (fun a ha z => by omega) (bm' := 0) (gv' := 0) q2, q3⟩
theorem MDI.gA {k a : Nat} (h : MDI g σ th s) (hk : ∀ th bm gv gm cm fm : Int32, (match MDC th bm gv gm cm fm with | .inr y => y.2[k]? | .inl _ => none) = some (.ref a)) : am_gA σ 10 k 95 = some a := by
  obtain ⟨gm, cm, fm, h3⟩ := h.2.2.1
  exact gA_of (show σ.2.2 95 = some (.inr (10, _)) from h3.1) (hk th _ _ gm cm fm)
theorem bfnd_bAdd {B : List (List Int32)} {t : List Int32} (hb : bfnd B t = none) : bAdd B t = B ++ [t] := by unfold bAdd; rw [hb]; rfl
theorem Md_put (h : MDI g σ th s) (hw : MSW s) (hz : MSZ s) (m : Int32) (hF : 131072 < F) : ∃ g' σ' v, f_Md_put F σ 95 m = some (v, σ') ∧ MDI g' σ' (opPut m s).1 (opPut m s).2.2 ∧ ((opPut m s).1 = 0 → v = (opPut m s).2.1) ∧ Fo MT g σ g' σ' := by
  obtain ⟨σ1, σ3, q1, q2, q3, q4, q5, fs, q6⟩ := Md_start1 (F := F) h
  obtain ⟨as, inp, B, P, R⟩ := s
  have hal : as.length ≤ 4 := by obtain ⟨A, f, -, -, -, -, -, z⟩ := q4; exact z
  have q5' : Fo MT g σ g σ3 := q5.mono fun a ha => ⟨by omega, by omega⟩
  simp only at q2 q3 q4
  have bad : opPut m (as, inp, B, P, R) = (1, 0, ([], inp, B, P, R)) → ∃ g' σ' v, f_Md_put_j36 F 95 σ3 = some (v, σ') ∧ MDI g' σ' (opPut m (as, inp, B, P, R)).1 (opPut m (as, inp, B, P, R)).2.2 ∧ ((opPut m (as, inp, B, P, R)).1 = 0 → v = (opPut m (as, inp, B, P, R)).2.1) ∧ Fo MT g σ g' σ' := by
    intro e
    rw [e]
    obtain ⟨σ4, a1, a2, a3⟩ := q3.bad (F := F)
    refine ⟨g, σ4, 0, ?_, a2, fun _ => rfl, q5'.trans (a3.mono fun a ha => ⟨by omega, by omega⟩)⟩
    unfold f_Md_put_j36
    rw [a1]; rfl
  unfold f_Md_put
  rw [am_ck_of q6, q1, Option.bind_some, q2]
  simp only [am_b2, Option.bind_some]
  have e2 : (nI as.length = 2) ↔ as.length = 2 := nI_eq (b := 2) (by omega) (by omega)
  simp only [e2]
  by_cases hl : as.length = 2
  · rw [if_pos hl, Md_in, Option.bind_some, in_isM]
    simp only [bo_0]
    cases hm : isM m with
    | false =>
      rw [if_pos rfl]
      exact bad (by unfold opPut; simp [hm])
    | true =>
      rw [if_neg (by decide)]
      obtain ⟨r0, l0, o0, R0⟩ := q4.at (j := 0) (by omega)
      obtain ⟨r1, l1, o1, R1⟩ := q4.at (j := 1) (by omega)
      have g6 := q3.gA (k := 6) (a := 120) (fun _ _ _ _ _ _ => rfl)
      have g1 := q3.gA (k := 1) (a := 96) (fun _ _ _ _ _ _ => rfl)
      have g37 := q3.gA (k := 37) (a := 170) (fun _ _ _ _ _ _ => rfl)
      rw [nI_0] at l0
      have n1 : nI 1 = 1 := rfl
      rw [n1] at l1
      have hs0 : sl as ≤ 16384 := by have := hz.1; simp only at this; omega
      have hl0 : as[0].length ≤ 16384 := by
        have := sl_get_le (B := as) (k := 0) (by omega)
        omega
      have hl1 : as[1].length ≤ 16384 := by
        have := sl_get_le (B := as) (k := 1) (by omega)
        omega
      have hp0 := Md_path (F := F) R0 hF (by omega)
      have eg0 : as.getD 0 [] = as[0] := getD_of (by omega)
      have eg1 : as.getD 1 [] = as[1] := getD_of (by omega)
      simp only [g6, l0, l1, hp0, Option.bind_some, bo_0]
      cases hp : okPath as[0] with
      | false =>
        rw [if_pos rfl]
        exact bad (by unfold opPut; simp only [eg0, hp, Bool.and_false, if_neg Bool.false_ne_true])
      | true =>
        rw [if_neg (by decide)]
        obtain ⟨k, hk3, hmk, hmk2⟩ := isM_lt hm
        obtain ⟨gm, cm, fm, hc3⟩ := q3.2.2.1
        have hB3 := q3.2.2.2.2.1
        simp only at hc3 hB3
        have hbo := Md_blobOf (F := F) hc3 hB3 R1 hF
        rw [hbo, Option.bind_some]
        obtain ⟨hs, hv, hn⟩ := hw.2.1 k hk3
        obtain ⟨hPl, hPp⟩ := hz.2.1 k hk3
        have hB5 := hz.2.2.2.2
        have hBs := hz.2.2.1
        simp only at hs hv hn hPl hPp hB5 hBs
        have hu : isB as[0] := ⟨by omega, fun x hx => hw.1 x (by simp only; rw [List.mem_append, List.mem_flatten]; exact Or.inl ⟨_, List.getElem_mem _, hx⟩)⟩
        have hul : as[0].length ≤ 255 := by
          unfold okPath at hp
          simp only [Bool.and_eq_true, decide_eq_true_eq] at hp
          exact hp.1.2
        have eo : opPut m (as, inp, B, P, R) = ((if ((fnd (P k) as[0]).isSome || room (P k) as[0]) = true then if ((bfnd B as[1]).isSome || bRoom B as[1]) = true then (0, nI ((bfnd B as[1]).getD B.length), ([], inp, bAdd B as[1], upP P k (asgP (P k) as[0] (nI ((bfnd B as[1]).getD B.length))), R)) else (2, 0, ([], inp, B, P, R)) else (2, 0, ([], inp, B, P, R))) : Int32 × Int32 × MSS) := by
          unfold opPut
          simp only
          rw [if_pos (show (isM m && decide (as.length = 2) && okPath (as.getD 0 [])) = true by rw [hm, eg0, hp, decide_eq_true hl]; rfl), hmk2, eg0, eg1]
        rw [eo]
        have hmap := q3.2.2.2.1.at hk3
        rw [← hmk] at hmap
        have hPs := q3.2.2.2.2.2.2.2.1 k hk3
        simp only at hPs
        have hY := q3.2.2.2.2.2.2.2.2.2.1
        -- from j78 on
        have main : ∀ (num : Nat) (nw : Bool), num ≤ 500 → num = (bfnd B as[1]).getD B.length → nw = !(bfnd B as[1]).isSome → ∃ g' σ' v, f_Md_put_j78 F 95 m r1 (nI num) (bo nw) σ3 = some (v, σ') ∧ MDI g' σ' ((if ((fnd (P k) as[0]).isSome || room (P k) as[0]) = true then if ((bfnd B as[1]).isSome || bRoom B as[1]) = true then (0, nI ((bfnd B as[1]).getD B.length), ([], inp, bAdd B as[1], upP P k (asgP (P k) as[0] (nI ((bfnd B as[1]).getD B.length))), R)) else (2, 0, ([], inp, B, P, R)) else (2, 0, ([], inp, B, P, R))) : Int32 × Int32 × MSS).1 ((if ((fnd (P k) as[0]).isSome || room (P k) as[0]) = true then if ((bfnd B as[1]).isSome || bRoom B as[1]) = true then (0, nI ((bfnd B as[1]).getD B.length), ([], inp, bAdd B as[1], upP P k (asgP (P k) as[0] (nI ((bfnd B as[1]).getD B.length))), R)) else (2, 0, ([], inp, B, P, R)) else (2, 0, ([], inp, B, P, R))) : Int32 × Int32 × MSS).2.2 ∧ (((if ((fnd (P k) as[0]).isSome || room (P k) as[0]) = true then if ((bfnd B as[1]).isSome || bRoom B as[1]) = true then (0, nI ((bfnd B as[1]).getD B.length), ([], inp, bAdd B as[1], upP P k (asgP (P k) as[0] (nI ((bfnd B as[1]).getD B.length))), R)) else (2, 0, ([], inp, B, P, R)) else (2, 0, ([], inp, B, P, R))) : Int32 × Int32 × MSS).1 = 0 → v = ((if ((fnd (P k) as[0]).isSome || room (P k) as[0]) = true then if ((bfnd B as[1]).isSome || bRoom B as[1]) = true then (0, nI ((bfnd B as[1]).getD B.length), ([], inp, bAdd B as[1], upP P k (asgP (P k) as[0] (nI ((bfnd B as[1]).getD B.length))), R)) else (2, 0, ([], inp, B, P, R)) else (2, 0, ([], inp, B, P, R))) : Int32 × Int32 × MSS).2.1) ∧ Fo MT g σ g' σ' := by
          intro num nw hnum enum enw
          obtain ⟨g4, σ4, b1, b2, b3⟩ := Md_rebuild (F := F) (v := some (nI num)) (v' := nI num) hc3 hPs R0 hY hu hul (by omega) (by omega) (by omega) (by rw [sl_mpE]; exact hPp) (by rw [mpE_len]; exact hPl) ⟨rfl, nI_pos' (by omega)⟩ hF
          rw [mpE_asg hs hu] at b2
          have M4 := q3.nxt b3 b2
          have hfit := Ps_fits (F := F) b2 hF
          rw [fit_asg hs hPl hPp hn hu] at hfit
          have W4 : Fo MT g σ g4 σ4 := q5'.trans (b3.mono fun a ha => ⟨by omega, by omega⟩)
          have g37b := M4.gA (k := 37) (a := 170) (fun _ _ _ _ _ _ => rfl)
          have ref : ∃ g' σ' v, f_Md_put_j149 F 95 σ4 = some (v, σ') ∧ MDI g' σ' 2 ([], inp, B, P, R) ∧ Fo MT g σ g' σ' := by
            obtain ⟨σ5, a1, a2, a3⟩ := M4.refused (F := F)
            refine ⟨g4, σ5, 0, ?_, a2, W4.trans (a3.mono fun a ha => ⟨by omega, by omega⟩)⟩
            unfold f_Md_put_j149
            rw [a1]; rfl
          unfold f_Md_put_j78
          simp only [g1, hmap, g6, l0, b1, g37b, hfit, Option.bind_some, bo_0]
          by_cases hft : ((fnd (P k) as[0]).isSome || room (P k) as[0]) = true
          · rw [if_neg (by rw [hft]; decide), if_pos hft]
            obtain ⟨gm4, cm4, fm4, hc4⟩ := M4.2.2.1
            simp only at hc4
            have z4 := hc4.1
            unfold MDC at z4
            have R1b := R1.fo b3 (by omega)
            have hB4 := M4.2.2.2.2.1
            simp only at hB4
            -- setting the MAP
            have setm : ∀ (g5 : Gh) (σ5 : am_S) (B' : List (List Int32)), MDI g5 σ5 0 ([], inp, B', P, R) → Ps g5 σ5 170 (mpE (asgP (P k) as[0] (nI num))) → Fo MT g σ g5 σ5 → ∃ g' σ', f_Md_put_j194 F 95 m (nI num) σ5 = some (nI num, σ') ∧ MDI g' σ' 0 ([], inp, B', upP P k (asgP (P k) as[0] (nI num)), R) ∧ Fo MT g σ g' σ' := by
              intro g5 σ5 B' M5 Y5 W5
              have p5 := M5.2.2.2.2.2.2.2.1 k hk3
              have hfl : sl (pts (mpE (asgP (P k) as[0] (nI num)))) ≤ 65536 := by
                rw [sl_mpE, asg_pl hs hu]
                split <;> omega
              obtain ⟨g6', σ6, s1, s2, s3⟩ := Ps_set (F := F) p5 Y5 (by omega) hfl hF
              have M6 := M5.map hk3 s3 s2
              refine ⟨g6', σ6, ?_, M6, W5.trans (s3.mono fun a ha => ⟨by omega, by omega⟩)⟩
              have e1 := M5.gA (k := 1) (a := 96) (fun _ _ _ _ _ _ => rfl)
              have e37 := M5.gA (k := 37) (a := 170) (fun _ _ _ _ _ _ => rfl)
              have emap := M5.2.2.2.1.at hk3
              rw [← hmk] at emap
              unfold f_Md_put_j194
              simp only [e1, emap, e37, s1, Option.bind_some]
            cases hbf : bfnd B as[1] with
            | some j =>
              rw [hbf] at enum enw
              simp only [Option.getD_some, Option.isSome_some, Bool.not_true] at enum enw
              subst enum enw
              rw [if_pos rfl, if_pos (by rfl)]
              unfold f_Md_put_j154
              rw [if_pos (show bo false = 0 by decide)]
              obtain ⟨g', σ', t1, t2, t3⟩ := setm g4 σ4 B M4 b2 W4
              have ebA : bAdd B as[1] = B := by unfold bAdd; rw [hbf]; rfl
              simp only [ebA, Option.getD_some]
              exact ⟨g', σ', _, t1, t2, fun _ => rfl, t3⟩
            | none =>
              rw [hbf] at enum enw
              simp only [Option.getD_none, Option.isSome_none, Bool.not_false] at enum enw
              subst enum enw
              simp only [Option.isSome_none, Bool.false_or, Option.getD_none, bfnd_bAdd hbf]
              rw [if_neg (show ¬ true = false by decide)]
              have e500 : (nI B.length = 500) ↔ B.length = 500 := nI_eq (b := 500) (by omega) (by omega)
              have e4096 : ((4096 : Int32) < nI as[1].length) ↔ 4096 < as[1].length := nI_ltI (a := 4096) (by omega) (by omega)
              have e32 : (nI (sl B + as[1].length) ≤ (32768 : Int32)) ↔ sl B + as[1].length ≤ 32768 := nI_leI (b := 32768) (by omega) (by omega)
              have n115 := Ro_n hB4.1
              rw [sl_flat] at n115
              rw [gI_of z4 (by rfl), Option.bind_some]
              simp only [e500]
              unfold bRoom
              by_cases c1 : B.length = 500
              · rw [if_pos c1, decide_eq_false (show ¬ B.length < 500 by omega)]
                simp only [Bool.false_and, if_neg Bool.false_ne_true]
                obtain ⟨g', σ', v, t1, t2, t3⟩ := ref
                exact ⟨g', σ', v, t1, t2, fun z => absurd (show (2 : Int32) = 0 from z) (by decide), t3⟩
              · rw [if_neg c1, Ro_n R1b, Option.bind_some, decide_eq_true (show B.length < 500 by omega)]
                simp only [e4096]
                by_cases c2 : 4096 < as[1].length
                · rw [if_pos c2, decide_eq_false (show ¬ as[1].length ≤ 4096 by omega)]
                  simp only [Bool.and_false, Bool.false_and, if_neg Bool.false_ne_true]
                  obtain ⟨g', σ', v, t1, t2, t3⟩ := ref
                  exact ⟨g', σ', v, t1, t2, fun z => absurd (show (2 : Int32) = 0 from z) (by decide), t3⟩
                · rw [if_neg c2, gA_of z4 (by rfl), Option.bind_some, n115, Option.bind_some, Option.bind_some, nI_add, decide_eq_true (show as[1].length ≤ 4096 by omega)]
                  simp only [e32]
                  by_cases c3 : sl B + as[1].length ≤ 32768
                  · rw [if_pos c3, decide_eq_true c3]
                    simp only [Bool.and_self, if_true]
                    unfold f_Md_put_j154
                    rw [if_neg (show ¬ bo true = 0 by decide)]
                    obtain ⟨bl1, bl2, bf, bl3, bl4⟩ := hB4
                    obtain ⟨g5, σ5, t1, t2, t3⟩ := Ro_addc (F := F) bl1 R1b (by omega) (by rw [sl_flat]; omega) hF
                    have hc5 := hc4.fo t3 (by omega)
                    obtain ⟨σ6, y1, y2, y3⟩ := Md_bm hc5 (nI (B.length + 1))
                    have cf6 := (bl3.fo t3 (by omega)).fo y3 (by omega)
                    have z5 := hc5.1
                    have z6 := y2.1
                    unfold MDC at z5 z6
                    have R6 := t2.fo y3 (by omega)
                    have hfl : B.flatten ++ as[1] = (B ++ [as[1]]).flatten := by simp
                    rw [hfl] at R6
                    have rn6 := Ro_n R6
                    rw [sl_flat] at rn6
                    have m6 := cf6.1
                    have sI6 := sI_of (v := nI (sl (B ++ [as[1]]))) m6 (by omega) (show B.length + 1 < 502 by omega) (by omega)
                    generalize hτ : am_put σ6 117 (cI 502 (uf bf (B.length + 1) (nI (sl (B ++ [as[1]]))))) = τ at sI6
                    have w6 : Fo (fun a => a = 117) g5 σ6 g5 τ := hτ ▸ (Fo.refl _ _ _).put fun _ => cf6.2.1
                    have W7 : Fo (fun a => a = 95 ∨ a = 115 ∨ a = 117) g4 σ4 g5 τ := (t3.mono fun a ha => by omega).trans ((y3.mono fun a ha => by omega).trans (w6.mono fun a ha => by omega))
                    obtain ⟨x1, x2, -, x4, -, x6, x7, x8, x9, ⟨Qx, x10⟩, x11⟩ := M4
                    have M7 : MDI g5 τ 0 ([], inp, B ++ [as[1]], P, R) := ⟨x1.fo W7, x2.fo x1 W7 fun a ha z => by omega, ⟨gm4, cm4, fm4, by rw [List.length_append]; exact y2.fo w6 (by omega)⟩, x4.fo W7 (by omega), ⟨R6.fo w6 (by omega), by simp; omega, uf bf (B.length + 1) (nI (sl (B ++ [as[1]]))), ⟨at_top hτ, (w6.2.1 117 cf6.2.2).trans cf6.2.1, Nat.lt_of_lt_of_le cf6.2.2 w6.1⟩, fun q hq => by
                      rw [List.length_append, List.length_singleton] at hq
                      by_cases e : q = B.length + 1
                      · subst e
                        rw [uf_same]
                        have : (B ++ [as[1]]).take (B.length + 1) = B ++ [as[1]] := List.take_of_length_le (by simp)
                        rw [this]
                      · rw [uf_ne e, bl4 q (by omega), List.take_append_of_le_length (by omega)]⟩, x6.fo W7 (by omega), x7.fo W7 fun a _ _ z => by omega, fun j hj => (x8 j hj).fo W7 fun a _ _ z => by omega, x9.fo W7 fun a _ _ z => by omega, ⟨Qx, x10.fo W7 fun a _ _ z => by omega⟩, x11.fo W7 fun a _ _ z => by omega⟩
                    obtain ⟨g', σ', u1, u2, u3⟩ := setm g5 τ (B ++ [as[1]]) M7 (b2.fo W7 fun a _ _ z => by omega) (W4.trans (W7.mono fun a ha => ⟨by omega, by omega⟩))
                    refine ⟨g', σ', nI B.length, ?_, u2, fun _ => rfl, u3⟩
                    rw [gA_of z4 (by rfl), Option.bind_some, t1]
                    simp only [am_b2, Option.bind_some]
                    rw [gI_of z5 (by rfl), Option.bind_some, nI_1, y1, Option.bind_some, gA_of z6 (by rfl), Option.bind_some, gI_of z6 (by rfl), Option.bind_some, gA_of z6 (by rfl), Option.bind_some, rn6, Option.bind_some, sI6, Option.bind_some, u1]
                  · rw [if_neg c3, decide_eq_false c3]
                    simp only [Bool.and_false, if_neg Bool.false_ne_true]
                    obtain ⟨g', σ', v, t1, t2, t3⟩ := ref
                    exact ⟨g', σ', v, t1, t2, fun z => absurd (show (2 : Int32) = 0 from z) (by decide), t3⟩
          · rw [if_pos (by simpa using hft), if_neg hft]
            obtain ⟨g', σ', v, t1, t2, t3⟩ := ref
            exact ⟨g', σ', v, t1, t2, fun z => absurd (show (2 : Int32) = 0 from z) (by decide), t3⟩
        cases hbf : bfnd B as[1] with
        | some j =>
          obtain ⟨hj, -⟩ := bfnd_lt hbf
          rw [if_pos (show (0 : Int32) ≤ oI (some j) from nI_pos' (by omega))]
          unfold f_Md_put_j65
          rw [if_pos rfl, oI_some]
          have := main j false (by omega) (by rw [hbf]; rfl) (by rw [hbf]; rfl)
          rw [hbf] at this
          exact this
        | none =>
          rw [if_neg (show ¬ (0 : Int32) ≤ oI none by decide)]
          unfold f_Md_put_j65
          have z3 := hc3.1
          unfold MDC at z3
          rw [if_neg (show ¬ (1 : Int32) = 0 by decide), gI_of z3 (by rfl), Option.bind_some]
          have := main B.length true (by omega) (by rw [hbf]; rfl) (by rw [hbf]; rfl)
          rw [hbf] at this
          exact this
  · rw [if_neg hl]
    exact bad (by unfold opPut; simp [hl])
end MW
