/-! ===== L3: the reference's renamed ===== -/
theorem MDI.scr {g g1 : Gh} {σ σ1 : am_S} {th : Int32} {s : MSS} {T : Nat → Prop} {gm cm fm : Int32} (h : MDI g σ th s) (hf : Fo T g σ g1 σ1) (hT : ∀ a, T a → a = 95 ∨ (129 ≤ a ∧ a ≤ 169)) (hc : Ce g1 σ1 95 (MDC th (nI s.2.2.1.length) (nI s.1.length) gm cm fm)) (hS : SCR g1 σ1) : MDI g1 σ1 th s := by
  obtain ⟨h1, h2, -, h4, h5, h6, h7, h8, -, ⟨Q, h10⟩, h11⟩ := h
  have hd : ∀ a, (a < 95 ∨ 96 ≤ a ∧ a < 129 ∨ 169 < a) → ¬ T a := fun a ha z => by have := hT a z; omega
  exact ⟨h1.fo hf, h2.fo h1 hf fun a ha => hd a (by omega), ⟨_, _, _, hc⟩, h4.fo hf (hd _ (by omega)), h5.fo hf (hd _ (by omega)) (hd _ (by omega)), h6.fo hf (hd _ (by omega)), h7.fo hf fun a _ _ => hd a (by omega), fun k hk => (h8 k hk).fo hf fun a _ _ => hd a (by omega), hS, ⟨Q, h10.fo hf fun a _ _ => hd a (by omega)⟩, h11.fo hf fun a _ _ => hd a (by omega)⟩
section RD
variable {g : Gh} {F p1 p2 ra : Nat} {P Q : PL} {B : List (List Int32)} {th bm gv fm : Int32} {s : PSt} {N : Nat → Nat → Prop}
theorem Md_r73 {σ : am_S} (hI : RI g σ th bm gv fm p1 p2 157 B P Q s N) {x1 : Int32} (hm1 : am_gA σ 10 1 95 = some 96) (hm2 : am_lA σ 11 96 x1 = some p1) (hl : P.length ≤ 400) (hl2 : Q.length ≤ 400) (hcl : ∀ g c v, s.1 g = some (c, v) → c < (gA Q P).length) {k1 : am_S → Option (Int32 × am_S)} {k2 : Int32 → am_S → Option (Int32 × am_S)} (i : Int32) : ∀ (m k : Nat), k ≤ P.length → (i < 0 ∨ (rnl s (gL P Q k).length).length ≤ i.toNatClampNeg) → P.length - k < m →
    f_Md_renamed_l73 F 95 x1 i k1 k2 m (nI (rnl s (gL P Q k).length).length) (nI k) σ = match (if i < 0 then none else (rnl s (gA P Q).length)[i.toNatClampNeg]?) with
      | none => k1 σ
      | some g => k2 (nI ((gA P Q).getD g 0)) σ := by
  obtain ⟨hc, hP, hQ, hS, hT, hB, ⟨ge, c1, c2⟩, ⟨co, d1, d2⟩, ⟨ar, e1, e2⟩, ⟨an, f1, f2⟩, sc, s1, s2⟩ := hI
  have z := hc.1
  unfold MDC at z
  have n1 := gA_len (P := P) (Q := Q)
  intro m
  induction m with
  | zero => intro k _ _ h; omega
  | succ m ih =>
    intro k hk0 hi hm
    rw [f_Md_renamed_l73, hm1, Option.bind_some, hm2, Option.bind_some, Ps_n hP, Option.bind_some, mpE_len]
    by_cases cc : P.length ≤ k
    · have e : k = P.length := by omega
      rw [if_pos (nI_le cc (by omega))]
      by_cases hn : i < 0
      · rw [if_pos hn]
      · rw [if_neg hn, List.getElem?_eq_none (by
          rcases hi with z | z
          · exact absurd z hn
          · rw [e] at z; exact z)]
    · have hk : k < P.length := by omega
      have hgk : (gL P Q k).length ≤ k := flt_len (isG P Q) k
      have hrl : (rnl s (gL P Q k).length).length ≤ (gL P Q k).length := flt_len _ _
      rw [if_neg (nI_ge hk (by omega)), gA_of z (k := 25) rfl, Option.bind_some, lI_of e1.1 (by omega) (by omega), Option.bind_some, e2 k hk]
      unfold prR
      by_cases hg : isG P Q k = true
      · have hgs : gL P Q (k + 1) = gL P Q k ++ [k] := by
          unfold gL
          rw [flt_succ, if_pos hg]
        have hgl : (gL P Q (k + 1)).length = (gL P Q k).length + 1 := by rw [hgs]; simp
        have hsucc := flt_succ (fun g => (s.1 g).isSome) (gL P Q k).length
        have hix0 := flt_idx (isG P Q) hk hg
        have hix : (gA P Q)[(gL P Q k).length]? = some k := hix0
        obtain ⟨hlt, hget⟩ := List.getElem?_eq_some_iff.mp hix
        rw [if_pos hg]
        cases hs : s.1 (gL P Q k).length with
        | none =>
          have e : rnl s (gL P Q (k + 1)).length = rnl s (gL P Q k).length := by
            rw [hgl]
            unfold rnl
            rw [hsucc]
            simp [hs]
          rw [if_neg (show ¬ (0 : Int32) ≤ oI ((none : Option (Nat × Nat)).map fun cv => (gA Q P).getD cv.1 0) by rw [Option.map_none]; decide), nI_1]
          have := ih (k + 1) (by omega) (by rw [e]; exact hi) (by omega)
          rw [e] at this
          exact this
        | some cv =>
          obtain ⟨c, v⟩ := cv
          have hlc := hcl _ c v hs
          have hlc2 := (gA_get hlc).1
          have hp : (0 : Int32) ≤ oI ((some (c, v)).map fun cv : Nat × Nat => (gA Q P).getD cv.1 0) := by
            rw [Option.map_some, gA_getD hlc, oI_some]
            exact nI_pos' (by omega)
          rw [if_pos hp]
          have e : rnl s (gL P Q (k + 1)).length = rnl s (gL P Q k).length ++ [(gL P Q k).length] := by
            rw [hgl]
            unfold rnl
            rw [hsucc]
            simp [hs]
          by_cases he : nI (rnl s (gL P Q k).length).length = i
          · rw [if_pos he]
            have hn : ¬ i < 0 := by rw [← he]; exact nI_pos (by omega)
            have hcl : i.toNatClampNeg = (rnl s (gL P Q k).length).length := by rw [← he]; exact nI_clamp (by omega)
            have hix1 := flt_idx (fun g => (s.1 g).isSome) hlt (by simp [hs])
            have hix2 : (rnl s (gA P Q).length)[(rnl s (gL P Q k).length).length]? = some (gL P Q k).length := hix1
            rw [if_neg hn, hcl, hix2]
            simp only
            rw [gA_getD hlt, hget]
          · rw [if_neg he, nI_1, nI_1]
            have := ih (k + 1) (by omega) (by
              rcases hi with z | z
              · exact Or.inl z
              · by_cases hn : i < 0
                · exact Or.inl hn
                · refine Or.inr ?_
                  rw [e, List.length_append, List.length_singleton]
                  have : (rnl s (gL P Q k).length).length ≠ i.toNatClampNeg := fun q => he (by rw [q]; exact clamp_nI hn)
                  omega) (by omega)
            rw [e, List.length_append, List.length_singleton] at this
            exact this
      · have hgs : gL P Q (k + 1) = gL P Q k := by
          unfold gL
          rw [flt_succ, if_neg hg]
        rw [if_neg hg, if_neg (show ¬ (0 : Int32) ≤ oI none by decide), nI_1]
        have := ih (k + 1) (by omega) (by rw [hgs]; exact hi) (by omega)
        rw [hgs] at this
        exact this
end RD
section RX
variable {g : Gh} {F : Nat} {σ : am_S} {th : Int32} {s : MSS}
theorem Md_ren (h : MDI g σ th s) (hw : MSW s) (hz : MSZ s) (a b i w : Int32) (hF : 131072 < F) : ∃ g' σ' v, f_Md_renamed F σ 95 a b i w = some (v, σ') ∧ MDI g' σ' (opRen a b i w s).1 (opRen a b i w s).2.2 ∧ ((opRen a b i w s).1 = 0 → v = (opRen a b i w s).2.1) ∧ Fo MT g σ g' σ' := by
  obtain ⟨as, inp, B, P, R⟩ := s
  obtain ⟨σ1, q1, q2, q3, fs, q4⟩ := Md_start0 h
  have q3' : Fo MT g σ g σ1 := q3.mono fun a ha => ⟨by omega, by omega⟩
  have bad : (isM a && isM b && !decide (a = b) && decide (¬ w < 0) && decide (w ≤ 2)) = false → ∃ g' σ' v, f_Md_renamed_j38 F 95 σ1 = some (v, σ') ∧ MDI g' σ' (opRen a b i w (as, inp, B, P, R)).1 (opRen a b i w (as, inp, B, P, R)).2.2 ∧ ((opRen a b i w (as, inp, B, P, R)).1 = 0 → v = (opRen a b i w (as, inp, B, P, R)).2.1) ∧ Fo MT g σ g' σ' := by
    intro hc
    have eo : opRen a b i w (as, inp, B, P, R) = (1, 0, (as, inp, B, P, R)) := by unfold opRen; simp only; rw [hc]; rfl
    obtain ⟨σ4, a1, a2, a3⟩ := q2.bad (F := F)
    rw [eo]
    unfold f_Md_renamed_j38
    rw [a1]
    exact ⟨g, σ4, 0, rfl, a2, fun q => absurd (show (1 : Int32) = 0 from q) (by decide), q3'.trans (a3.mono fun a ha => ⟨by omega, by omega⟩)⟩
  unfold f_Md_renamed
  rw [am_ck_of q4, q1, Option.bind_some, Md_in, Option.bind_some, in_isM]
  simp only [bo_0]
  cases ha : isM a with
  | false => rw [if_pos rfl]; exact bad (by simp [ha])
  | true =>
    rw [if_neg (by decide), Md_in, Option.bind_some, in_isM]
    simp only [bo_0]
    cases hb : isM b with
    | false => rw [if_pos rfl]; exact bad (by simp [hb])
    | true =>
      rw [if_neg (by decide)]
      by_cases hab : a = b
      · rw [if_pos hab]; exact bad (by simp [hab])
      · rw [if_neg hab, Md_in, Option.bind_some]
        have ew : (decide (¬ w < 0) && decide (¬ 2 < w)) = (decide (¬ w < 0) && decide (w ≤ 2)) := by
          congr 1
          exact decide_eq_decide.mpr (by rw [Int32.not_lt])
        rw [ew]
        simp only [bo_0]
        cases hwv : (decide (¬ w < 0) && decide (w ≤ 2)) with
        | false => rw [if_pos rfl]; exact bad (by rw [Bool.and_assoc, hwv, Bool.and_false])
        | true =>
          rw [if_neg (by decide)]
          obtain ⟨x, hx3, hx1, hx2⟩ := isM_lt ha
          obtain ⟨y, hy3, hy1, hy2⟩ := isM_lt hb
          have g1 := q2.gA (k := 1) (a := 96) (fun _ _ _ _ _ _ => rfl)
          have g25 := q2.gA (k := 25) (a := 157) (fun _ _ _ _ _ _ => rfl)
          have g27 := q2.gA (k := 27) (a := 159) (fun _ _ _ _ _ _ => rfl)
          have mx := q2.2.2.2.1.at hx3
          have my := q2.2.2.2.1.at hy3
          rw [← hx1] at mx
          rw [← hy1] at my
          simp only [g1, mx, my, g25, g27, Option.bind_some]
          have q2' := id q2
          obtain ⟨w1, w2, ⟨gm, cm, fm, w3⟩, w4, w5, w6, w7, w8, ⟨y1, y2, y3, y4, y5, y6⟩, w10, w11⟩ := q2
          simp only at w3 w5 w6 w7 w8 w11
          have hVx := (hw.2.1 x hx3).2.1
          have hVy := (hw.2.1 y hy3).2.1
          simp only at hVx hVy
          obtain ⟨g2, σ2, N, t1, t2, t3⟩ := Md_renames (F := F) (ra := 157) (P := P x) (Q := P y) w3 (w8 x hx3) (w8 y hy3) y1 y2 w5 (by omega) (by omega) (Or.inl rfl) (hz.2.1 x hx3).1 (hz.2.1 y hy3).1 hVx hVy hz.2.2.2.1 hF
          rw [t1, Option.bind_some]
          have t2' := id t2
          obtain ⟨hc2, hP2, hQ2, hS2, hT2, hB2, ⟨ge, c1, c2⟩, ⟨co, d1, d2⟩, ⟨ar, e1, e2⟩, ⟨an, f1, f2⟩, -⟩ := t2
          have M2 : MDI g2 σ2 0 (as, inp, B, P, R) := by
            obtain ⟨Q1, y3⟩ := y3
            obtain ⟨Q2, y4⟩ := y4
            obtain ⟨u1, y5⟩ := y5
            obtain ⟨u2, y6⟩ := y6
            exact q2'.scr t3 (fun a ha => by unfold RNT at ha; omega) hc2 ⟨hS2, hT2, ⟨Q1, y3.fo t3 fun a _ _ => by omega⟩, ⟨Q2, y4.fo t3 fun a _ _ => by omega⟩, ⟨u1, y5.fo t3 (by omega)⟩, ⟨u2, y6.fo t3 (by omega)⟩⟩
          have W2 : Fo MT g σ g2 σ2 := q3'.trans (t3.mono fun a ha => by unfold RNT at ha; exact ⟨by omega, by omega⟩)
          have m1 := M2.gA (k := 1) (a := 96) (fun _ _ _ _ _ _ => rfl)
          have m2 := M2.2.2.2.1.at hx3
          rw [← hx1] at m2
          have hrn := Md_r73 (F := F) t2' m1 m2 (hz.2.1 x hx3).1 (hz.2.1 y hy3).1 rnS_c (k1 := fun τ => f_Md_renamed_j149 F 95 τ) (k2 := fun y6 τ => f_Md_renamed_j106 F 95 w y6 τ) i F 0 (by omega) (by
            by_cases hn : i < 0
            · exact Or.inl hn
            · exact Or.inr (by rw [show (gL (P x) (P y) 0).length = 0 from rfl]; exact Nat.zero_le _)) (by have := (hz.2.1 x hx3).1; simp only at this; omega)
          have r0 : rnl (rnS B (P x) (P y)) (gL (P x) (P y) 0).length = [] := rfl
          rw [r0] at hrn
          have eo : opRen a b i w (as, inp, B, P, R) = match (if i < 0 then none else (rnl (rnS B (P x) (P y)) (gA (P x) (P y)).length)[i.toNatClampNeg]?) with
                | none => (2, 0, (as, inp, B, P, R))
                | some g => (0, rnV B (P x) (P y) g w, (as, inp, B, P, R)) := by
            unfold opRen
            simp only
            rw [if_pos (show (isM a && isM b && !decide (a = b) && decide (¬ w < 0) && decide (w ≤ 2)) = true by rw [Bool.and_assoc, hwv, ha, hb, decide_eq_false hab]; rfl), hx2, hy2]
            rfl
          rw [eo]
          rw [show f_Md_renamed_l73 F 95 a i (fun τ => f_Md_renamed_j149 F 95 τ) (fun y6 τ => f_Md_renamed_j106 F 95 w y6 τ) F 0 0 σ2 = _ from hrn]
          cases hgg : (if i < 0 then none else (rnl (rnS B (P x) (P y)) (gA (P x) (P y)).length)[i.toNatClampNeg]?) with
          | none =>
            simp only
            obtain ⟨σ4, a1, a2, a3⟩ := M2.refused (F := F)
            unfold f_Md_renamed_j149
            rw [a1]
            exact ⟨g2, σ4, 0, rfl, a2, fun q => absurd (show (2 : Int32) = 0 from q) (by decide), W2.trans (a3.mono fun a ha => ⟨by omega, by omega⟩)⟩
          | some gg =>
            have hgm : gg < (gA (P x) (P y)).length ∧ ((rnS B (P x) (P y)).1 gg).isSome = true := by
              by_cases hi0 : i < 0
              · rw [if_pos hi0] at hgg; cases hgg
              · rw [if_neg hi0] at hgg
                have := List.mem_of_getElem? hgg
                exact flt_mem.mp this
            obtain ⟨hg1, hg2⟩ := hgm
            obtain ⟨c, v, hcv⟩ : ∃ c v, (rnS B (P x) (P y)).1 gg = some (c, v) := by
              cases hz : (rnS B (P x) (P y)).1 gg with
              | none => rw [hz] at hg2; cases hg2
              | some cv => exact ⟨cv.1, cv.2, rfl⟩
            obtain ⟨k1, k2, k3⟩ := gA_get hg1
            have hc := rnS_c gg c v hcv
            have hPl := (hz.2.1 x hx3).1
            simp only at hPl
            have c25 := M2.gA (k := 25) (a := 157) (fun _ _ _ _ _ _ => rfl)
            have c27 := M2.gA (k := 27) (a := 159) (fun _ _ _ _ _ _ => rfl)
            have lar := lI_of e1.1 (i := (gA (P x) (P y))[gg]) (by omega) (by omega)
            have lan := lI_of f1.1 (i := (gA (P x) (P y))[gg]) (by omega) (by omega)
            rw [e2 _ k1] at lar
            rw [f2 gg hg1 c v hcv] at lan
            have epr : prR (P x) (P y) (rnS B (P x) (P y)) (gA (P x) (P y))[gg] = some ((gA (P y) (P x)).getD c 0) := by
              unfold prR
              rw [if_pos k2, k3, hcv]
              rfl
            rw [epr, oI_some] at lar
            simp only
            unfold f_Md_renamed_j106 rnV
            rw [gA_getD hg1, hcv]
            by_cases w0 : w = 0
            · rw [if_pos w0, if_pos w0]
              exact ⟨g2, σ2, _, rfl, M2, fun _ => rfl, W2⟩
            · rw [if_neg w0, if_neg w0]
              by_cases w1 : w = 1
              · rw [if_pos w1]
                simp only [c25, lar, Option.bind_some]
                rw [if_pos w1]
                exact ⟨g2, σ2, _, rfl, M2, fun _ => rfl, W2⟩
              · rw [if_neg w1]
                simp only [c27, lan, Option.bind_some]
                rw [if_neg w1]
                exact ⟨g2, σ2, _, rfl, M2, fun _ => rfl, W2⟩
end RX
