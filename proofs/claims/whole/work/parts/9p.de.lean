/-! ===== L3: the reference: what becomes of a group ===== -/
theorem SCA.re {T : Nat → Prop} {g g1 : Gh} {σ σ1 : am_S} (h : SCA g σ) (hf : Fo T g σ g1 σ1) (hr : ∀ a ty n, scT a = some (ty, n) → T a → ∃ f : Nat → Int32, Ce g1 σ1 a (.inl (ty, n, fun j => .int (f j)))) : SCA g1 σ1 := by
  intro a ty n ha
  by_cases c : T a
  · exact hr a ty n ha c
  · obtain ⟨f, h1⟩ := h a ty n ha
    exact ⟨f, h1.fo hf c⟩
def EV (g : Gh) (σ : am_S) (B : List (List Int32)) (P0 P1 P2 : PL) : Prop := gW g σ ∧ MkS σ ∧ BLK g σ B ∧ Ps g σ 97 (mpE P0) ∧ Ps g σ 103 (mpE P1) ∧ Ps g σ 109 (mpE P2) ∧ SCA g σ ∧ TXA g σ ∧ ∃ t, Ro g σ 164 t
def DCI (g : Gh) (σ : am_S) (th gv : Int32) (B : List (List Int32)) (P0 P1 P2 : PL) (O : List Og) : Prop := EV g σ B P0 P1 P2 ∧ FI g σ th (nI B.length) gv (frT O) ∧ OI g σ O
abbrev DT : Nat → Prop := fun a => a = 95 ∨ (129 ≤ a ∧ a ≤ 141) ∨ (145 ≤ a ∧ a ≤ 150) ∨ (162 ≤ a ∧ a ≤ 169)
/-- all but what T has: scratch given anew -/
theorem EV.fo {T : Nat → Prop} {g g1 : Gh} {σ σ1 : am_S} {B : List (List Int32)} {P0 P1 P2 : PL} (h : EV g σ B P0 P1 P2) (hf : Fo T g σ g1 σ1) (hT : ∀ a, T a → a = 95 ∨ 129 ≤ a ∧ a ≤ 169) (hS : SCA g1 σ1) (hX : TXA g1 σ1) (hR : ∃ t, Ro g1 σ1 164 t) : EV g1 σ1 B P0 P1 P2 := by
  obtain ⟨h1, h2, h3, h4, h5, h6, -⟩ := h
  have hd : ∀ a, (a < 95 ∨ 96 ≤ a ∧ a < 129) → ¬ T a := fun a ha z => by have := hT a z; omega
  exact ⟨h1.fo hf, h2.fo h1 hf fun a ha => hd a (by omega), h3.fo hf (hd _ (by omega)) (hd _ (by omega)), h4.fo hf fun a _ _ => hd a (by omega), h5.fo hf fun a _ _ => hd a (by omega), h6.fo hf fun a _ _ => hd a (by omega), hS, hX, hR⟩
theorem frT_le (O : List Og) : (frT O).length ≤ O.length := List.length_filterMap_le _ _
section DE
variable {g : Gh} {F : Nat} {th gv : Int32} {B : List (List Int32)} {P0 P1 P2 : PL} {O : List Og} {σ : am_S}
/-- the number of a BLOB, if there is one -/
theorem Md_rd {β : Type} {P : PL} {p : Option Nat} {mp fl : Nat} {K : Int32 → Option β} (hP : Ps g σ mp (mpE P)) (hV : VB B P) (hf : am_gA σ 10 fl 95 = some mp) (hl : P.length ≤ 400) (hp : ∀ k, p = some k → k < P.length) : (if 0 ≤ oI p then (am_gA σ 10 fl 95).bind fun v1 => (am_gA σ 11 2 v1).bind fun v2 => (am_lI σ .int v2 (3 * oI p)).bind fun v3 => K v3 else K (-1)) = K (oI (p.map (valN P))) := by
  cases p with
  | none => rw [if_neg (show ¬ (0 : Int32) ≤ oI none by decide)]; rfl
  | some k =>
    have hk := hp k rfl
    obtain ⟨v1, v2⟩ := Md_gval hP hV hk
    have e3 : 3 * nI k = nI (3 * k) := nI_mul 3 k
    rw [oI_some, if_pos (nI_pos' (by omega)), hf, Option.bind_some, v1, Option.bind_some, e3, v2, Option.bind_some, Option.map_some, oI_some]
theorem Md_de1 {p a b : Option Nat} {gm cm fm bm : Int32} (hc : Ce g σ 95 (MDC th bm gv gm cm fm)) (h0 : Ps g σ 97 (mpE P0)) (h1 : Ps g σ 103 (mpE P1)) (h2 : Ps g σ 109 (mpE P2)) (v0 : VB B P0) (v1 : VB B P1) (v2 : VB B P2) (l0 : P0.length ≤ 400) (l1 : P1.length ≤ 400) (l2 : P2.length ≤ 400) (hg : gOK P0 P1 P2 (p, a, b)) :
    f_Md_decide F σ 95 (oI p) (oI a) (oI b) = if (a.isSome || b.isSome) = true then f_Md_decide_j70 F 95 (oI p) (oI a) (oI b) (oI (p.map (valN P0))) (oI (a.map (valN P1))) (oI (b.map (valN P2))) σ else some (.inr (), σ) := by
  have z := hc.1
  unfold MDC at z
  have j9 : f_Md_decide_j9 F 95 (oI p) (oI a) (oI b) σ = f_Md_decide_j70 F 95 (oI p) (oI a) (oI b) (oI (p.map (valN P0))) (oI (a.map (valN P1))) (oI (b.map (valN P2))) σ := by
    unfold f_Md_decide_j9
    rw [Md_rd (K := fun v => f_Md_decide_j28 F 95 (oI p) (oI a) (oI b) v σ) h0 v0 (gA_of z (k := 20) rfl) l0 hg.1]
    unfold f_Md_decide_j28
    rw [Md_rd (K := fun v => f_Md_decide_j49 F 95 (oI p) (oI a) (oI b) (oI (p.map (valN P0))) v σ) h1 v1 (gA_of z (k := 21) rfl) l1 hg.2.1]
    unfold f_Md_decide_j49
    rw [Md_rd (K := fun v => f_Md_decide_j70 F 95 (oI p) (oI a) (oI b) (oI (p.map (valN P0))) (oI (a.map (valN P1))) v σ) h2 v2 (gA_of z (k := 22) rfl) l2 hg.2.2]
  unfold f_Md_decide
  rw [am_ck_of z, j9]
  cases a with
  | some ia =>
    have := hg.2.1 ia rfl
    rw [if_pos (show (0 : Int32) ≤ oI (some ia) from nI_pos' (by omega)), if_pos (by simp)]
  | none =>
    rw [if_neg (show ¬ (0 : Int32) ≤ oI none by decide)]
    cases b with
    | some ib =>
      have := hg.2.2 ib rfl
      rw [if_pos (show (0 : Int32) ≤ oI (some ib) from nI_pos' (by omega)), if_pos (by simp)]
    | none =>
      rw [if_neg (show ¬ (0 : Int32) ≤ oI none by decide), if_neg (by simp)]
/-- an OUTCOME is listed -/
theorem Md_de9 {p : Gp} {mp k : Nat} {P : PL} {e : Og} (hE : EV g σ B P0 P1 P2) (hFI : FI g σ th (nI B.length) gv (frT (O ++ [e]))) (hOI : OI g σ O) (hP : Ps g σ mp (mpE P)) (hmp : mp = 103 ∨ mp = 109) (hk : k < P.length) (he : e.2.1 = pth P k) (hep : e.1 = p) (hO : O.length < 1300) (hl : sl (ogP O) + (pth P k).length ≤ 65536) (hF : 131072 < F) :
    ∃ g' σ', f_Md_outcomea F σ 95 mp (nI k) (vlE e (frT (O ++ [e])).length) (bo e.2.2.1) (oI p.1) (oI p.2.1) (oI p.2.2) = some (.inr (), σ') ∧ DCI g' σ' th gv B P0 P1 P2 (O ++ [e]) ∧ Fo DT g σ g' σ' := by
  obtain ⟨⟨gm, cm, hc⟩, -⟩ := id hFI
  obtain ⟨g1, σ1, q1, q2, q3⟩ := Md_outc (F := F) hc hOI hP hmp hk he hO hl hF
  rw [hep] at q1
  have hE' := id hE
  obtain ⟨-, -, -, -, -, -, hS, hX, t, hR⟩ := hE
  have hS1 : SCA g1 σ1 := hS.re q3 fun a ty n ha hT => by
    have hr := scT_in ha
    have h3 : a = 167 ∨ a = 168 ∨ a = 169 := by omega
    obtain ⟨-, ⟨f2, c2, -⟩, ⟨f3, c3, -⟩, ⟨f4, c4, -⟩⟩ := id q2
    rcases h3 with rfl | rfl | rfl
    · cases ha; exact ⟨f2, c2⟩
    · cases ha; exact ⟨f3, c3⟩
    · cases ha; exact ⟨f4, c4⟩
  exact ⟨g1, σ1, q1, ⟨hE'.fo q3 (fun a ha => by omega) hS1 (hX.fo q3 fun a _ _ => by omega) ⟨t, hR.fo q3 (by omega)⟩, hFI.fo q3 fun a ha => by omega, q2⟩, q3.mono fun a ha => by unfold DT; omega⟩
theorem cmp_is {P Q : PL} {mp mq i j : Nat} (hP : Ps g σ mp (mpE P)) (hQ : Ps g σ mq (mpE Q)) (t : Srt P) (t' : Srt Q) (hi : i < P.length) (hj : j < Q.length) (hF : 131072 < F) : ∃ v, f_Ps_comparea F σ mp (nI i) mq (nI j) = some v ∧ ((v = 0) ↔ pth P i = pth Q j) := by
  have := Ps_cmp (F := F) hP hQ (i := i) (j := j) (by rw [mpE_len]; exact hi) (by rw [mpE_len]; exact hj) hF
  rw [mpE_get hi, mpE_get hj] at this
  refine ⟨_, this, ?_⟩
  simp only
  rw [cmp0 (t.1 i hi) (t'.1 j hj), pth_of hi, pth_of hj]
theorem stay_iff {P0 P : PL} {p : Option Nat} {i : Nat} : stay P0 P p (some i) = true ↔ ∃ k, p = some k ∧ pth P0 k = pth P i := by
  cases p with
  | none => simp [stay]
  | some k => simp [stay]
/-- both have it: whose PATH, and UNMERGED or not -/
theorem Md_de2 {p : Option Nat} {ia ib : Nat} {x4 x5 x6 gm cm fm bm : Int32} (hc : Ce g σ 95 (MDC th bm gv gm cm fm)) (h0 : Ps g σ 97 (mpE P0)) (h1 : Ps g σ 103 (mpE P1)) (h2 : Ps g σ 109 (mpE P2)) (t0 : Srt P0) (t1 : Srt P1) (t2 : Srt P2) (l0 : P0.length ≤ 400) (l1 : P1.length ≤ 400) (l2 : P2.length ≤ 400) (hg : gOK P0 P1 P2 (p, some ia, some ib)) (hF : 131072 < F) :
    ∃ u w : Bool, f_Md_decide_j70 F 95 (oI p) (nI ia) (nI ib) x4 x5 x6 σ = f_Md_decide_j256 F 95 (oI p) (nI ia) (nI ib) x4 x5 x6 (bo u) (bo w) σ ∧ grec P0 P1 P2 (p, some ia, some ib) = some (if w = true then pth P2 ib else pth P1 ia, u) := by
  have z := hc.1
  unfold MDC at z
  have g20 : am_gA σ 10 20 95 = some 97 := gA_of z (k := 20) rfl
  have g21 : am_gA σ 10 21 95 = some 103 := gA_of z (k := 21) rfl
  have g22 : am_gA σ 10 22 95 = some 109 := gA_of z (k := 22) rfl
  have ha := hg.2.1 ia rfl
  have hb := hg.2.2 ib rfl
  obtain ⟨v1, c1, d1⟩ := cmp_is (F := F) h1 h2 t1 t2 ha hb hF
  unfold f_Md_decide_j70
  rw [if_neg (nI_pos (by omega)), if_pos (nI_pos' (by omega)), g21, Option.bind_some, g22, Option.bind_some, c1, Option.bind_some]
  unfold grec
  simp only [d1]
  by_cases e1 : pth P1 ia = pth P2 ib
  · rw [if_pos e1, if_pos e1]
    exact ⟨false, false, rfl, rfl⟩
  · rw [if_neg e1, if_neg e1]
    unfold f_Md_decide_j233 f_Md_decide_j253
    cases p with
    | none =>
      rw [oI_none, if_pos (show (-1 : Int32) < 0 by decide), if_pos (show (-1 : Int32) < 0 by decide)]
      have s1 : stay P0 P1 none (some ia) = false := rfl
      have s2 : stay P0 P2 none (some ib) = false := rfl
      rw [s1, s2]
      exact ⟨true, false, rfl, rfl⟩
    | some ip =>
      have hp := hg.1 ip rfl
      obtain ⟨v2, c2, d2⟩ := cmp_is (F := F) h1 h0 t1 t0 ha hp hF
      obtain ⟨v3, c3, d3⟩ := cmp_is (F := F) h2 h0 t2 t0 hb hp hF
      rw [oI_some, if_neg (nI_pos (by omega)), if_neg (nI_pos (by omega))]
      simp only [g20, g21, g22, Option.bind_some, c2, c3, d2, d3]
      by_cases e2 : pth P1 ia = pth P0 ip
      · rw [if_pos e2]
        have s1 : stay P0 P1 (some ip) (some ia) = true := stay_iff.mpr ⟨ip, rfl, e2.symm⟩
        rw [s1]
        exact ⟨false, true, rfl, rfl⟩
      · rw [if_neg e2]
        have s1 : stay P0 P1 (some ip) (some ia) = false := by
          cases hs : stay P0 P1 (some ip) (some ia) with
          | false => rfl
          | true =>
            obtain ⟨k, hk, e⟩ := stay_iff.mp hs
            cases hk
            exact absurd e.symm e2
        rw [s1]
        by_cases e3 : pth P2 ib = pth P0 ip
        · rw [if_pos e3]
          have s2 : stay P0 P2 (some ip) (some ib) = true := stay_iff.mpr ⟨ip, rfl, e3.symm⟩
          rw [s2]
          exact ⟨false, false, rfl, rfl⟩
        · rw [if_neg e3]
          have s2 : stay P0 P2 (some ip) (some ib) = false := by
            cases hs : stay P0 P2 (some ip) (some ib) with
            | false => rfl
            | true =>
              obtain ⟨k, hk, e⟩ := stay_iff.mp hs
              cases hk
              exact absurd e.symm e3
          rw [s2]
          exact ⟨true, false, rfl, rfl⟩
/-- one has it -/
theorem Md_de3 {p a b : Option Nat} {i mp : Nat} {P : PL} {gm cm fm bm : Int32} (hc : Ce g σ 95 (MDC th bm gv gm cm fm)) (h0 : Ps g σ 97 (mpE P0)) (hP : Ps g σ mp (mpE P)) (t0 : Srt P0) (t : Srt P) (l0 : P0.length ≤ 400) (l : P.length ≤ 400) (hb5 : B.length ≤ 500) (v0 : VB B P0) (v : VB B P) (hp : ∀ k, p = some k → k < P0.length) (hi : i < P.length) (hcase : (mp = 103 ∧ a = some i ∧ b = none) ∨ (mp = 109 ∧ a = none ∧ b = some i)) (hab : ∀ k, a = some k ∨ b = some k → k < 400) (hF : 131072 < F) {x5 x6 : Int32} (hx : (if mp = 103 then x5 else x6) = nI (valN P i)) :
    f_Md_decide_j70 F 95 (oI p) (oI a) (oI b) (oI (p.map (valN P0))) x5 x6 σ = if (stay P0 P p (some i) && decide (p.map (valN P0) = some (valN P i))) = true then some (.inr (), σ) else f_Md_decide_j178 F (oI p) (oI a) (oI b) 95 mp (nI i) (nI (valN P i)) (bo p.isSome) σ := by
  have z := hc.1
  unfold MDC at z
  have g20 : am_gA σ 10 20 95 = some 97 := gA_of z (k := 20) rfl
  have g21 : am_gA σ 10 21 95 = some 103 := gA_of z (k := 21) rfl
  have g22 : am_gA σ 10 22 95 = some 109 := gA_of z (k := 22) rfl
  have hvi := (v i hi).1
  have j133 : f_Md_decide_j133 F 95 (oI p) (oI a) (oI b) (oI (p.map (valN P0))) mp (nI i) (nI (valN P i)) σ = if (stay P0 P p (some i) && decide (p.map (valN P0) = some (valN P i))) = true then some (.inr (), σ) else f_Md_decide_j178 F (oI p) (oI a) (oI b) 95 mp (nI i) (nI (valN P i)) (bo p.isSome) σ := by
    unfold f_Md_decide_j133 f_Md_decide_j162
    cases p with
    | none =>
      rw [oI_none, if_pos (show (-1 : Int32) < 0 by decide), if_pos (show (-1 : Int32) < 0 by decide)]
      rfl
    | some ip =>
      have hip := hp ip rfl
      have hvp := (v0 ip hip).1
      obtain ⟨w, c2, d2⟩ := cmp_is (F := F) hP h0 t t0 hi hip hF
      rw [oI_some, if_neg (nI_pos (by omega)), if_neg (nI_pos (by omega)), Option.map_some, oI_some]
      simp only [nI_eq (show valN P i < 2 ^ 31 by omega) (show valN P0 ip < 2 ^ 31 by omega), g20, c2, d2, Option.bind_some]
      have hs : stay P0 P (some ip) (some i) = decide (pth P i = pth P0 ip) := by
        simp only [stay]
        exact decide_eq_decide.mpr ⟨fun e => e.symm, fun e => e.symm⟩
      rw [hs]
      by_cases e1 : valN P i = valN P0 ip
      · rw [if_pos e1]
        by_cases e2 : pth P i = pth P0 ip
        · rw [if_pos e2, if_pos (by simp [e1, e2])]
        · rw [if_neg e2, if_neg (by simp [e2])]
          rfl
      · rw [if_neg e1, if_neg (by simp; intro _; omega)]
        rfl
  unfold f_Md_decide_j70 f_Md_decide_j80
  rcases hcase with ⟨rfl, rfl, rfl⟩ | ⟨rfl, rfl, rfl⟩
  · rw [if_pos rfl] at hx
    subst hx
    rw [oI_some, oI_none, if_neg (nI_pos (by omega)), if_neg (show ¬ (0 : Int32) ≤ -1 by decide), if_neg (show ¬ (0 : Int32) ≤ -1 by decide)]
    unfold f_Md_decide_j89 f_Md_decide_j107 f_Md_decide_j119
    rw [if_neg (by decide), g21, Option.bind_some, if_neg (by decide), if_neg (by decide)]
    exact j133
  · rw [if_neg (by decide)] at hx
    subst hx
    rw [oI_none, oI_some, if_pos (show (-1 : Int32) < 0 by decide), if_pos (nI_pos' (by omega))]
    unfold f_Md_decide_j89 f_Md_decide_j107 f_Md_decide_j119
    rw [if_pos (by decide), g22, Option.bind_some, if_pos (by decide), if_pos (by decide)]
    exact j133
end DE
