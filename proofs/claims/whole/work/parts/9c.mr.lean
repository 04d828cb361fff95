/-! ===== L3: the reference: drop, copy, blob, count, outcome, letter ===== -/
section MR
variable {g : Gh} {σ : am_S} {F : Nat} {th : Int32} {s : MSS}
theorem Md_drop (h : MDI g σ th s) (hw : MSW s) (hz : MSZ s) (m : Int32) (hF : 131072 < F) : ∃ g' σ', f_Md_drop F σ 95 m = some σ' ∧ MDI g' σ' (opDrop m s).1 (opDrop m s).2.2 ∧ Fo MT g σ g' σ' := by
  obtain ⟨σ1, σ3, q1, q2, q3, q4, q5, fs, q6⟩ := Md_start1 (F := F) h
  obtain ⟨as, inp, B, P, R⟩ := s
  have hal : as.length ≤ 4 := by obtain ⟨A, f, -, -, -, -, -, z⟩ := q4; exact z
  have q5' : Fo MT g σ g σ3 := q5.mono fun a ha => ⟨by omega, by omega⟩
  simp only at q2 q3 q4
  have bad : opDrop m (as, inp, B, P, R) = (1, 0, ([], inp, B, P, R)) → ∃ g' σ', f_Md_drop_j36 F 95 σ3 = some σ' ∧ MDI g' σ' (opDrop m (as, inp, B, P, R)).1 (opDrop m (as, inp, B, P, R)).2.2 ∧ Fo MT g σ g' σ' := by
    intro e
    rw [e]
    obtain ⟨σ4, a1, a2, a3⟩ := q3.bad (F := F)
    refine ⟨g, σ4, ?_, a2, q5'.trans (a3.mono fun a ha => ⟨by omega, by omega⟩)⟩
    unfold f_Md_drop_j36
    rw [a1]; rfl
  unfold f_Md_drop
  rw [am_ck_of q6, q1, Option.bind_some, q2]
  simp only [am_b2, Option.bind_some]
  have e2 : (nI as.length = 1) ↔ as.length = 1 := nI_eq (b := 1) (by omega) (by omega)
  simp only [e2]
  by_cases hl : as.length = 1
  · rw [if_pos hl, Md_in, Option.bind_some, in_isM]
    simp only [bo_0]
    cases hm : isM m with
    | false =>
      rw [if_pos rfl]
      exact bad (by unfold opDrop; simp [hm])
    | true =>
      rw [if_neg (by decide)]
      obtain ⟨r0, l0, o0, R0⟩ := q4.at (j := 0) (by omega)
      have g6 := q3.gA (k := 6) (a := 120) (fun _ _ _ _ _ _ => rfl)
      have g1 := q3.gA (k := 1) (a := 96) (fun _ _ _ _ _ _ => rfl)
      rw [nI_0] at l0
      have hs0 : sl as ≤ 16384 := by have := hz.1; simp only at this; omega
      have hl0 : as[0].length ≤ 16384 := by
        have := sl_get_le (B := as) (k := 0) (by omega)
        omega
      have hp0 := Md_path (F := F) R0 hF (by omega)
      have eg0 : as.getD 0 [] = as[0] := getD_of (by omega)
      simp only [g6, l0, hp0, Option.bind_some, bo_0]
      cases hp : okPath as[0] with
      | false =>
        rw [if_pos rfl]
        exact bad (by unfold opDrop; simp only [eg0, hp, Bool.and_false, if_neg Bool.false_ne_true])
      | true =>
        rw [if_neg (by decide)]
        obtain ⟨k, hk3, hmk, hmk2⟩ := isM_lt hm
        obtain ⟨gm, cm, fm, hc3⟩ := q3.2.2.1
        obtain ⟨hs, hv, hn⟩ := hw.2.1 k hk3
        obtain ⟨hPl, hPp⟩ := hz.2.1 k hk3
        simp only at hs hv hn hPl hPp
        have hu : isB as[0] := ⟨by omega, fun x hx => hw.1 x (by simp only; rw [List.mem_append, List.mem_flatten]; exact Or.inl ⟨_, List.getElem_mem _, hx⟩)⟩
        have hul : as[0].length ≤ 255 := by
          unfold okPath at hp
          simp only [Bool.and_eq_true, decide_eq_true_eq] at hp
          exact hp.1.2
        have eo : opDrop m (as, inp, B, P, R) = match fnd (P k) as[0] with
            | some i => (0, 0, ([], inp, B, upP P k (delP (P k) i), R))
            | none => (2, 0, ([], inp, B, P, R)) := by
          unfold opDrop
          simp only
          rw [if_pos (show (isM m && decide (as.length = 1) && okPath (as.getD 0 [])) = true by rw [hm, eg0, hp, decide_eq_true hl]; rfl), hmk2, eg0]
          cases fnd (P k) as[0] <;> rfl
        rw [eo]
        have hmap := q3.2.2.2.1.at hk3
        rw [← hmk] at hmap
        have hPs := q3.2.2.2.2.2.2.2.1 k hk3
        simp only at hPs
        have hY := q3.2.2.2.2.2.2.2.2.2.1
        have hfd := Ps_finda (F := F) hPs R0 hu hF
        rw [pfd_mpE] at hfd
        simp only [g1, hmap, hfd, Option.bind_some]
        cases hf : fnd (P k) as[0] with
        | none =>
          rw [if_neg (show ¬ (0 : Int32) ≤ oI none by decide)]
          obtain ⟨σ4, a1, a2, a3⟩ := q3.refused (F := F)
          rw [a1]
          exact ⟨g, σ4, rfl, a2, q5'.trans (a3.mono fun a ha => ⟨by omega, by omega⟩)⟩
        | some i =>
          have hi := fnd_lt hf
          rw [if_pos (show (0 : Int32) ≤ oI (some i) from nI_pos' (by omega))]
          obtain ⟨g4, σ4, b1, b2, b3⟩ := Md_rebuild (F := F) (v := none) (v' := -1) hc3 hPs R0 hY hu hul (by omega) (by omega) (by omega) (by rw [sl_mpE]; exact hPp) (by rw [mpE_len]; exact hPl) (by decide) hF
          rw [mpE_del hs hu hf] at b2
          have M4 := q3.nxt b3 b2
          have p5 := M4.2.2.2.2.2.2.2.1 k hk3
          have hfl : sl (pts (mpE (delP (P k) i))) ≤ 65536 := by
            rw [sl_mpE, delP_pl hi]
            omega
          obtain ⟨g6', σ6, s1, s2, s3⟩ := Ps_set (F := F) p5 b2 (by omega) hfl hF
          have M6 := M4.map hk3 s3 s2
          have e1 := M4.gA (k := 1) (a := 96) (fun _ _ _ _ _ _ => rfl)
          have e37 := M4.gA (k := 37) (a := 170) (fun _ _ _ _ _ _ => rfl)
          have emap := M4.2.2.2.1.at hk3
          rw [← hmk] at emap
          refine ⟨g6', σ6, ?_, M6, q5'.trans ((b3.mono fun a ha => ⟨by omega, by omega⟩).trans (s3.mono fun a ha => ⟨by omega, by omega⟩))⟩
          simp only [b1, e1, emap, e37, s1, Option.bind_some]
  · rw [if_neg hl]
    exact bad (by unfold opDrop; simp [hl])
theorem Md_copy (h : MDI g σ th s) (hz : MSZ s) (a b : Int32) (hF : 131072 < F) : ∃ g' σ', f_Md_copy F σ 95 a b = some σ' ∧ MDI g' σ' (opCopy a b s).1 (opCopy a b s).2.2 ∧ Fo MT g σ g' σ' := by
  obtain ⟨σ1, σ3, q1, q2, q3, q4, q5, fs, q6⟩ := Md_start1 (F := F) h
  obtain ⟨as, inp, B, P, R⟩ := s
  have hal : as.length ≤ 4 := by obtain ⟨A, f, -, -, -, -, -, z⟩ := q4; exact z
  have q5' : Fo MT g σ g σ3 := q5.mono fun a ha => ⟨by omega, by omega⟩
  simp only at q2 q3 q4
  have bad : opCopy a b (as, inp, B, P, R) = (1, 0, ([], inp, B, P, R)) → ∃ g' σ', f_Md_copy_j32 F 95 σ3 = some σ' ∧ MDI g' σ' (opCopy a b (as, inp, B, P, R)).1 (opCopy a b (as, inp, B, P, R)).2.2 ∧ Fo MT g σ g' σ' := by
    intro e
    rw [e]
    obtain ⟨σ4, a1, a2, a3⟩ := q3.bad (F := F)
    refine ⟨g, σ4, ?_, a2, q5'.trans (a3.mono fun a ha => ⟨by omega, by omega⟩)⟩
    unfold f_Md_copy_j32
    rw [a1]; rfl
  unfold f_Md_copy
  rw [am_ck_of q6, q1, Option.bind_some, q2]
  simp only [am_b2, Option.bind_some]
  have e2 : (nI as.length = 0) ↔ as.length = 0 := nI_eq (b := 0) (by omega) (by omega)
  simp only [e2]
  by_cases hl : as.length = 0
  · rw [if_pos hl, Md_in, Option.bind_some, in_isM]
    simp only [bo_0]
    cases ha : isM a with
    | false =>
      rw [if_pos rfl]
      exact bad (by unfold opCopy; simp [ha])
    | true =>
      rw [if_neg (by decide), Md_in, Option.bind_some, in_isM]
      simp only [bo_0]
      cases hb : isM b with
      | false =>
        rw [if_pos rfl]
        exact bad (by unfold opCopy; simp [hb])
      | true =>
        rw [if_neg (by decide)]
        obtain ⟨i, hi, ei, ei2⟩ := isM_lt ha
        obtain ⟨j, hj, ej, ej2⟩ := isM_lt hb
        have eo : opCopy a b (as, inp, B, P, R) = (0, 0, ([], inp, B, upP P j (P i), R)) := by
          unfold opCopy
          simp only
          rw [if_pos (show (isM a && isM b && decide (as.length = 0)) = true by rw [ha, hb, decide_eq_true hl]; rfl), ei2, ej2]
        rw [eo]
        obtain ⟨hPl, hPp⟩ := hz.2.1 i hi
        simp only at hPl hPp
        have hfl : sl (pts (mpE (P i))) ≤ 65536 := by rw [sl_mpE]; omega
        obtain ⟨Y, hY⟩ := q3.2.2.2.2.2.2.2.2.2.1
        obtain ⟨g4, σ4, b1, b2, b3⟩ := Ps_set (F := F) hY (q3.2.2.2.2.2.2.2.1 i hi) (by omega) hfl hF
        have M4 := q3.nxt b3 b2
        obtain ⟨g5, σ5, c1, c2, c3⟩ := Ps_set (F := F) (M4.2.2.2.2.2.2.2.1 j hj) b2 (by omega) hfl hF
        have M5 := M4.map hj c3 c2
        have e37 := q3.gA (k := 37) (a := 170) (fun _ _ _ _ _ _ => rfl)
        have e1 := q3.gA (k := 1) (a := 96) (fun _ _ _ _ _ _ => rfl)
        have e37' := M4.gA (k := 37) (a := 170) (fun _ _ _ _ _ _ => rfl)
        have e1' := M4.gA (k := 1) (a := 96) (fun _ _ _ _ _ _ => rfl)
        have m1 := q3.2.2.2.1.at hi
        have m2 := M4.2.2.2.1.at hj
        rw [← ei] at m1
        rw [← ej] at m2
        refine ⟨g5, σ5, ?_, M5, q5'.trans ((b3.mono fun a ha => ⟨by omega, by omega⟩).trans (c3.mono fun a ha => ⟨by omega, by omega⟩))⟩
        simp only [e37, e1, m1, b1, e1', m2, e37', c1, Option.bind_some]
  · rw [if_neg hl]
    exact bad (by unfold opCopy; simp [hl])
/-- thrown is 0 again -/
theorem Md_start0 (h : MDI g σ th s) : ∃ σ1, am_pI σ 10 0 95 0 = some σ1 ∧ MDI g σ1 0 s ∧ Fo (fun a => a = 95) g σ g σ1 ∧ (∃ fs, σ.2.2 95 = some (.inr (10, fs))) := by
  obtain ⟨gm, cm, fm, h3⟩ := h.2.2.1
  obtain ⟨σ1, q1, q2, q3⟩ := Md_th h3 0
  exact ⟨σ1, q1, h.rest q3 (fun a ha z => by omega) (bm' := 0) (gv' := 0) q2, q3, ⟨_, h3.1⟩⟩
theorem Md_blob (h : MDI g σ th s) (hz : MSZ s) (m i : Int32) : ∃ σ' v, f_Md_blob F σ 95 m i = some (v, σ') ∧ MDI g σ' (opBlob m i s).1 (opBlob m i s).2.2 ∧ ((opBlob m i s).1 = 0 → v = (opBlob m i s).2.1) ∧ Fo MT g σ g σ' := by
  obtain ⟨σ1, q1, q2, q3, fs, q4⟩ := Md_start0 h
  have q3' : Fo MT g σ g σ1 := q3.mono fun a ha => ⟨by omega, by omega⟩
  have ref : ∃ σ' v, f_Md_blob_j36 F 95 σ1 = some (v, σ') ∧ MDI g σ' 2 s ∧ Fo MT g σ g σ' := by
    obtain ⟨σ4, a1, a2, a3⟩ := q2.refused (F := F)
    refine ⟨σ4, 0, ?_, a2, q3'.trans (a3.mono fun a ha => ⟨by omega, by omega⟩)⟩
    unfold f_Md_blob_j36
    rw [a1]; rfl
  unfold f_Md_blob opBlob
  rw [am_ck_of q4, q1, Option.bind_some, Md_in, Option.bind_some, in_isM]
  simp only [bo_0]
  cases hm : isM m with
  | false =>
    rw [if_pos rfl, if_neg Bool.false_ne_true]
    obtain ⟨σ4, a1, a2, a3⟩ := q2.bad (F := F)
    rw [a1]
    exact ⟨σ4, 0, rfl, a2, fun _ => rfl, q3'.trans (a3.mono fun a ha => ⟨by omega, by omega⟩)⟩
  | true =>
    rw [if_neg (by decide), if_pos rfl]
    obtain ⟨k, hk3, hmk, hmk2⟩ := isM_lt hm
    have g1 := q2.gA (k := 1) (a := 96) (fun _ _ _ _ _ _ => rfl)
    have hmap := q2.2.2.2.1.at hk3
    rw [← hmk] at hmap
    have hPs := q2.2.2.2.2.2.2.2.1 k hk3
    obtain ⟨hPl, hPp⟩ := hz.2.1 k hk3
    have hn := Ps_n hPs
    rw [mpE_len] at hn
    rw [hmk2]
    by_cases c1 : i < 0
    · rw [if_pos c1, if_neg (by simp [c1])]
      obtain ⟨σ', v, t1, t2, t3⟩ := ref
      exact ⟨σ', v, t1, t2, fun z => absurd (show (2 : Int32) = 0 from z) (by decide), t3⟩
    · rw [if_neg c1]
      simp only [g1, hmap, hn, Option.bind_some]
      obtain ⟨q, hq, rfl⟩ := nI_of c1
      rw [nI_clamp hq]
      by_cases c2 : q < (s.2.2.2.1 k).length
      · rw [if_pos (nI_lt c2 (by omega)), if_pos (decide_eq_true ⟨c1, c2⟩)]
        obtain ⟨v1, v2, -⟩ := Ps_val hPs (k := q) (by rw [mpE_len]; exact c2)
        have e3 : 3 * nI q = nI (3 * q) := nI_mul 3 q
        rw [mpE_get c2] at v2
        rw [v1, Option.bind_some, e3, v2]
        exact ⟨σ1, _, rfl, q2, fun _ => by simp only; rw [valI_of c2], q3'⟩
      · rw [if_neg (nI_nlt (by omega) hq), if_neg (by simp [c2])]
        obtain ⟨σ', v, t1, t2, t3⟩ := ref
        exact ⟨σ', v, t1, t2, fun z => absurd (show (2 : Int32) = 0 from z) (by decide), t3⟩
theorem Md_count (h : MDI g σ th s) (hz : MSZ s) (w : Int32) : ∃ σ', f_Md_count F σ 95 w = some (coV w s, σ') ∧ MDI g σ' 0 s ∧ Fo MT g σ g σ' := by
  obtain ⟨σ1, q1, q2, q3, fs, q4⟩ := Md_start0 h
  have q3' : Fo MT g σ g σ1 := q3.mono fun a ha => ⟨by omega, by omega⟩
  refine ⟨σ1, ?_, q2, q3'⟩
  obtain ⟨gm, cm, fm, hc⟩ := q2.2.2.1
  have z1 := hc.1
  unfold MDC at z1
  obtain ⟨Q, T, sf, sb, e1, e2, e3, e4, e5, e6⟩ := q2.2.2.2.2.2.2.2.2.2.2
  have hb := Ro_n q2.2.2.2.2.1.1
  rw [sl_flat] at hb
  have hi := Ro_n q2.2.2.2.2.2.1
  have hs := Ps_n e1
  rw [e5] at hs
  unfold f_Md_count
  rw [am_ck_of q4, q1, Option.bind_some, Md_in, Option.bind_some, in_isM]
  simp only [bo_0]
  cases hm : isM w with
  | false =>
    rw [if_pos rfl]
    have h0 : w ≠ 0 := fun z => by rw [z] at hm; revert hm; decide
    have h1 : w ≠ 1 := fun z => by rw [z] at hm; revert hm; decide
    have h2 : w ≠ 2 := fun z => by rw [z] at hm; revert hm; decide
    unfold coV
    rw [if_neg h0, if_neg h1, if_neg h2]
    have a4 : am_gI σ1 10 4 95 = some (nI s.2.2.1.length) := gI_of z1 rfl
    have a2 : am_gA σ1 10 2 95 = some 115 := gA_of z1 rfl
    have a38 : am_gA σ1 10 38 95 = some 176 := gA_of z1 rfl
    have a5 : am_gA σ1 10 5 95 = some 118 := gA_of z1 rfl
    have a7 : am_gI σ1 10 7 95 = some (nI s.1.length) := gI_of z1 rfl
    simp only [a4, a2, hb, a38, hs, a5, hi, a7, Option.bind_some]
    split
    · rfl
    · split
      · rfl
      · split
        · rfl
        · split
          · rfl
          · split <;> rfl
  | true =>
    rw [if_neg (by decide)]
    obtain ⟨k, hk3, hmk, hmk2⟩ := isM_lt hm
    have g1 := q2.gA (k := 1) (a := 96) (fun _ _ _ _ _ _ => rfl)
    have hmap := q2.2.2.2.1.at hk3
    have hn := Ps_n (q2.2.2.2.2.2.2.2.1 k hk3)
    rw [mpE_len] at hn
    subst hmk
    simp only [g1, hmap, hn, Option.bind_some]
    unfold coV
    have hk : k = 0 ∨ k = 1 ∨ k = 2 := by omega
    rcases hk with rfl | rfl | rfl <;> rfl
theorem m1_sub (n : Nat) (hn : n < 2 ^ 31) : ¬ (0 : Int32) ≤ -1 - nI n ∧ -1 - (-1 - nI n) = nI n := by
  constructor
  · rw [Int32.le_iff_toInt_le, Int32.toInt_sub, nI_toInt hn]
    have a : (-1 : Int32).toInt = -1 := by decide
    have b : (0 : Int32).toInt = 0 := by decide
    rw [a, b, Int.bmod_def]
    have e : ((2 ^ 32 : Nat) : Int) = 4294967296 := rfl
    rw [e]
    split <;> omega
  · grind
/-- an OUTCOME's TEXT -/
theorem Md_seen (h : MDI g σ th s) (hw : MSW s) (hz : MSZ s) (hL : s.2.2.2.2.2.length ≤ 400) {i : Nat} (hi : i < s.2.2.2.2.1.length) (hT : (rcT (snR s.2.2.2.2.1 s.2.2.2.2.2 i)).length ≤ 65536) : f_Md_seenLength F σ 95 (nI i) = some (nI (rcT (snR s.2.2.2.2.1 s.2.2.2.2.2 i)).length) ∧ ∃ sb, am_gA σ 10 41 95 = some 185 ∧ am_lI σ .int 185 (nI i) = some sb ∧ (if 0 ≤ sb then sb = oI (rcB (snR s.2.2.2.2.1 s.2.2.2.2.2 i)) ∧ (rcB (snR s.2.2.2.2.1 s.2.2.2.2.2 i)).isSome = true else rcB (snR s.2.2.2.2.1 s.2.2.2.2.2 i) = none) := by
  obtain ⟨gm, cm, fm, hc⟩ := h.2.2.1
  have z1 := hc.1
  unfold MDC at z1
  obtain ⟨Q, T, sf, sb, e1, e2, e3, e4, e5, e6⟩ := h.2.2.2.2.2.2.2.2.2.2
  have hQ := (Ps_ob e1).2
  obtain ⟨-, -, -, hr⟩ := e6 i hi (by omega)
  obtain ⟨r, hrl, r1, r2, r3, r4⟩ := sn_at hL hw.2.2 hi
  obtain ⟨b1, b2, bf, b3, b4⟩ := h.2.2.2.2.1
  have hBs := hz.2.2.1
  have a41 : am_gA σ 10 41 95 = some 185 := gA_of z1 rfl
  have a3 : am_gA σ 10 3 95 = some 117 := gA_of z1 rfl
  have l41 := lI_of e4.1 (i := i) (by omega) (by omega)
  unfold f_Md_seenLength
  rw [am_ck_of z1]
  simp only [a41, l41, Option.bind_some]
  cases hb : rcB (snR s.2.2.2.2.1 s.2.2.2.2.2 i) with
  | some k =>
    rw [hb] at hr
    obtain ⟨x1, x2⟩ := hr
    rw [r2] at hb ⊢
    obtain ⟨hk, ek⟩ := r4 k hb
    have hp : (0 : Int32) ≤ nI k := nI_pos' (by omega)
    have su := sl_take_succ hk
    have le := sl_take_le s.2.2.1 (k + 1)
    rw [x1, if_pos hp]
    refine ⟨?_, nI k, by trivial, by trivial, ?_⟩
    · simp only [a3, Option.bind_some]
      rw [nI_1, lI_of b3.1 (by omega) (by omega), Option.bind_some, lI_of b3.1 (by omega) (by omega), Option.bind_some, b4 (k + 1) (by omega), b4 k (by omega), nI_sub (by omega), su, Nat.add_sub_cancel_left, ek]
    · rw [if_pos hp]
      exact ⟨rfl, rfl⟩
  | none =>
    rw [hb] at hr
    obtain ⟨x1, -⟩ := hr
    obtain ⟨y1, y2⟩ := m1_sub (rcT (snR s.2.2.2.2.1 s.2.2.2.2.2 i)).length (by omega)
    rw [x1, if_neg y1]
    refine ⟨by rw [y2], -1 - nI (rcT (snR s.2.2.2.2.1 s.2.2.2.2.2 i)).length, by trivial, rfl, ?_⟩
    rw [if_neg y1]
theorem Md_out (h : MDI g σ th s) (hw : MSW s) (hz : MSZ s) (hL : s.2.2.2.2.2.length ≤ 400) (hT : ∀ i, i < s.2.2.2.2.1.length → (rcT (snR s.2.2.2.2.1 s.2.2.2.2.2 i)).length ≤ 65536) (i w : Int32) : ∃ σ' v, f_Md_outcomeb F σ 95 i w = some (v, σ') ∧ MDI g σ' (opOut i w s).1 (opOut i w s).2.2 ∧ ((opOut i w s).1 = 0 → v = (opOut i w s).2.1) ∧ Fo MT g σ g σ' := by
  obtain ⟨σ1, q1, q2, q3, fs, q4⟩ := Md_start0 h
  have q3' : Fo MT g σ g σ1 := q3.mono fun a ha => ⟨by omega, by omega⟩
  have ref : ∃ σ' v, f_Md_outcomeb_j35 F 95 σ1 = some (v, σ') ∧ MDI g σ' 2 s ∧ Fo MT g σ g σ' := by
    obtain ⟨σ4, a1, a2, a3⟩ := q2.refused (F := F)
    refine ⟨σ4, 0, ?_, a2, q3'.trans (a3.mono fun a ha => ⟨by omega, by omega⟩)⟩
    unfold f_Md_outcomeb_j35
    rw [a1]; rfl
  have e6 : (decide (¬ w < 0) && decide (¬ 6 < w)) = (decide (¬ w < 0) && decide (w ≤ 6)) := by simp only [Int32.not_lt]
  unfold f_Md_outcomeb opOut
  rw [am_ck_of q4, q1, Option.bind_some, Md_in, Option.bind_some, e6]
  simp only [bo_0]
  cases hc : (decide (¬ w < 0) && decide (w ≤ 6)) with
  | false =>
    rw [if_pos rfl, if_neg Bool.false_ne_true]
    obtain ⟨σ4, a1, a2, a3⟩ := q2.bad (F := F)
    rw [a1]
    exact ⟨σ4, 0, rfl, a2, fun _ => rfl, q3'.trans (a3.mono fun a ha => ⟨by omega, by omega⟩)⟩
  | true =>
    rw [if_neg (by decide), if_pos rfl]
    simp only [Bool.and_eq_true, decide_eq_true_eq] at hc
    have a38 := q2.gA (k := 38) (a := 176) (fun _ _ _ _ _ _ => rfl)
    obtain ⟨Q, T, sf, sb, x1, x2, x3, x4, x5, x6⟩ := q2.2.2.2.2.2.2.2.2.2.2
    have hQ := (Ps_ob x1).2
    have hn := Ps_n x1
    by_cases c1 : i < 0
    · rw [if_pos c1, if_neg (by simp [c1])]
      obtain ⟨σ', v, t1, t2, t3⟩ := ref
      exact ⟨σ', v, t1, t2, fun z => absurd (show (2 : Int32) = 0 from z) (by decide), t3⟩
    · rw [if_neg c1]
      simp only [a38, hn, Option.bind_some]
      obtain ⟨q, hq, rfl⟩ := nI_of c1
      rw [nI_clamp hq]
      by_cases c2 : q < s.2.2.2.2.1.length
      · have hqQ : q < Q.length := by omega
        rw [if_pos (nI_lt hqQ (by omega)), if_pos (decide_eq_true ⟨c1, c2⟩)]
        obtain ⟨y1, y2, y3, y4⟩ := x6 q c2 hqQ
        obtain ⟨s1, sb', s2, s3, s4⟩ := Md_seen (F := F) q2 hw hz hL c2 (hT q c2)
        obtain ⟨v1, v2, v3, v4, v5, v6⟩ := Ps_val x1 hqQ
        have e3 : 3 * nI q = nI (3 * q) := nI_mul 3 q
        unfold ouV
        rw [snP_of c2]
        by_cases w0 : w = 0
        · rw [if_pos w0]
          simp only [if_pos w0]
          rw [Ps_len x1 hqQ]
          exact ⟨σ1, _, rfl, q2, fun _ => by rw [y1], q3'⟩
        · rw [if_neg w0]
          simp only [if_neg w0]
          by_cases w1 : w = 1
          · rw [if_pos w1]
            simp only [if_pos w1]
            simp only [v5, v6, Option.bind_some, bo_0, y2]
            cases (snR s.2.2.2.2.1 s.2.2.2.2.2 q).1 with
            | true => exact ⟨σ1, 1, rfl, q2, fun _ => rfl, q3'⟩
            | false => exact ⟨σ1, 0, rfl, q2, fun _ => rfl, q3'⟩
          · rw [if_neg w1]
            simp only [if_neg w1]
            by_cases w2 : w = 2
            · rw [if_pos w2]
              simp only [if_pos w2]
              rw [s1]
              exact ⟨σ1, _, rfl, q2, fun _ => rfl, q3'⟩
            · rw [if_neg w2]
              simp only [if_neg w2]
              by_cases w3 : w = 3
              · rw [if_pos w3]
                simp only [if_pos w3]
                have : 3 * nI q + w - 3 = nI (3 * q) := by rw [w3, e3]; grind
                rw [v1, Option.bind_some, this, v2]
                refine ⟨σ1, _, rfl, q2, fun _ => ?_, q3'⟩
                rw [y3]
                cases (snR s.2.2.2.2.1 s.2.2.2.2.2 q).1 <;> rfl
              · rw [if_neg w3]
                simp only [if_neg w3]
                by_cases w4 : w = 4
                · rw [if_pos w4]
                  simp only [if_pos w4]
                  have : 3 * nI q + w - 3 = nI (3 * q + 1) := by rw [w4, e3, ← nI_1]; grind
                  rw [v1, Option.bind_some, this, v3]
                  refine ⟨σ1, _, rfl, q2, fun _ => ?_, q3'⟩
                  rw [y3]
                  cases (snR s.2.2.2.2.1 s.2.2.2.2.2 q).1 <;> rfl
                · rw [if_neg w4]
                  simp only [if_neg w4]
                  by_cases w5 : w = 5
                  · rw [if_pos w5]
                    simp only [if_pos w5]
                    have e2 : nI (3 * q + 2) = nI (3 * q) + 2 := (nI_add (3 * q) 2).symm
                    have : 3 * nI q + w - 3 = nI (3 * q + 2) := by rw [w5, e3, e2]; grind
                    rw [v1, Option.bind_some, this, v4]
                    refine ⟨σ1, _, rfl, q2, fun _ => ?_, q3'⟩
                    rw [y3]
                    cases (snR s.2.2.2.2.1 s.2.2.2.2.2 q).1 <;> rfl
                  · rw [if_neg w5]
                    simp only [if_neg w5]
                    have w6 : w = 6 := by
                      obtain ⟨j, hj, rfl⟩ := nI_of hc.1
                      have hj6 : j ≤ 6 := (nI_leI (b := 6) hj (by omega)).mp hc.2
                      have : j = 6 := by
                        have a0 : j ≠ 0 := fun z => w0 (by rw [z]; rfl)
                        have a1 : j ≠ 1 := fun z => w1 (by rw [z]; rfl)
                        have a2 : j ≠ 2 := fun z => w2 (by rw [z]; rfl)
                        have a3 : j ≠ 3 := fun z => w3 (by rw [z]; rfl)
                        have a4 : j ≠ 4 := fun z => w4 (by rw [z]; rfl)
                        have a5 : j ≠ 5 := fun z => w5 (by rw [z]; rfl)
                        omega
                      rw [this]; rfl
                    rw [if_pos w6]
                    simp only [s2, s3, Option.bind_some]
                    by_cases hp : 0 ≤ sb'
                    · rw [if_pos hp] at s4
                      rw [if_pos hp]
                      exact ⟨σ1, _, rfl, q2, fun _ => s4.1, q3'⟩
                    · rw [if_neg hp] at s4
                      rw [if_neg hp, s4]
                      exact ⟨σ1, _, rfl, q2, fun _ => rfl, q3'⟩
      · rw [if_neg (nI_nlt (by omega) hq), if_neg (by simp [c2])]
        obtain ⟨σ', v, t1, t2, t3⟩ := ref
        exact ⟨σ', v, t1, t2, fun z => absurd (show (2 : Int32) = 0 from z) (by decide), t3⟩
theorem Md_let (h : MDI g σ th s) (hw : MSW s) (hz : MSZ s) (hL : s.2.2.2.2.2.length ≤ 400) (hT : ∀ i, i < s.2.2.2.2.1.length → (rcT (snR s.2.2.2.2.1 s.2.2.2.2.2 i)).length ≤ 65536) (i w k : Int32) : ∃ σ' v, f_Md_letter F σ 95 i w k = some (v, σ') ∧ MDI g σ' (opLet i w k s).1 (opLet i w k s).2.2 ∧ ((opLet i w k s).1 = 0 → v = (opLet i w k s).2.1) ∧ Fo MT g σ g σ' := by
  obtain ⟨σ1, q1, q2, q3, fs, q4⟩ := Md_start0 h
  have q3' : Fo MT g σ g σ1 := q3.mono fun a ha => ⟨by omega, by omega⟩
  have ref : ∃ σ' v, f_Md_letter_j62 F 95 σ1 = some (v, σ') ∧ MDI g σ' 2 s ∧ Fo MT g σ g σ' := by
    obtain ⟨σ4, a1, a2, a3⟩ := q2.refused (F := F)
    refine ⟨σ4, 0, ?_, a2, q3'.trans (a3.mono fun a ha => ⟨by omega, by omega⟩)⟩
    unfold f_Md_letter_j62
    rw [a1]; rfl
  have e6 : (decide (¬ w < 0) && decide (¬ 1 < w)) = (decide (¬ w < 0) && decide (w ≤ 1)) := by simp only [Int32.not_lt]
  unfold f_Md_letter opLet
  rw [am_ck_of q4, q1, Option.bind_some, Md_in, Option.bind_some, e6]
  simp only [bo_0]
  cases hc : (decide (¬ w < 0) && decide (w ≤ 1)) with
  | false =>
    rw [if_pos rfl, if_neg Bool.false_ne_true]
    obtain ⟨σ4, a1, a2, a3⟩ := q2.bad (F := F)
    rw [a1]
    exact ⟨σ4, 0, rfl, a2, fun _ => rfl, q3'.trans (a3.mono fun a ha => ⟨by omega, by omega⟩)⟩
  | true =>
    rw [if_neg (by decide), if_pos rfl]
    have a38 := q2.gA (k := 38) (a := 176) (fun _ _ _ _ _ _ => rfl)
    have a2' := q2.gA (k := 2) (a := 115) (fun _ _ _ _ _ _ => rfl)
    have a3' := q2.gA (k := 3) (a := 117) (fun _ _ _ _ _ _ => rfl)
    have a39 := q2.gA (k := 39) (a := 182) (fun _ _ _ _ _ _ => rfl)
    have a40 := q2.gA (k := 40) (a := 184) (fun _ _ _ _ _ _ => rfl)
    obtain ⟨Q, T, sf, sb, x1, x2, x3, x4, x5, x6⟩ := q2.2.2.2.2.2.2.2.2.2.2
    have hQ := (Ps_ob x1).2
    have hn := Ps_n x1
    by_cases c1 : i < 0
    · rw [if_pos c1, if_neg (by simp [c1])]
      obtain ⟨σ', v, t1, t2, t3⟩ := ref
      exact ⟨σ', v, t1, t2, fun z => absurd (show (2 : Int32) = 0 from z) (by decide), t3⟩
    · rw [if_neg c1]
      simp only [a38, hn, Option.bind_some]
      obtain ⟨q, hq, rfl⟩ := nI_of c1
      rw [nI_clamp hq]
      by_cases c2 : q < s.2.2.2.2.1.length
      · have hqQ : q < Q.length := by omega
        rw [if_neg (nI_ge hqQ (by omega)), if_pos (decide_eq_true ⟨c1, c2⟩)]
        obtain ⟨y1, y2, y3, y4⟩ := x6 q c2 hqQ
        obtain ⟨s1, sb', s2, s3, s4⟩ := Md_seen (F := F) q2 hw hz hL c2 (hT q c2)
        have hTq := hT q c2
        obtain ⟨r, hrl, r1, r2, r3, r4⟩ := sn_at hL hw.2.2 c2
        unfold leL
        by_cases k0 : k < 0
        · rw [if_pos k0, if_pos (Or.inl k0)]
          obtain ⟨σ', v, t1, t2, t3⟩ := ref
          exact ⟨σ', v, t1, t2, fun z => absurd (show (2 : Int32) = 0 from z) (by decide), t3⟩
        · rw [if_neg k0]
          obtain ⟨p, hp, rfl⟩ := nI_of k0
          rw [nI_clamp hp]
          unfold f_Md_letter_j59
          by_cases w0 : w = 0
          · simp only [if_pos w0]
            rw [snP_of c2, ← y1]
            have hlen := Ps_lenle x1 hqQ
            rw [Ps_len x1 hqQ, Option.bind_some]
            by_cases hl : nI p < nI Q[q].1.length
            · rw [if_pos hl, if_neg (by rintro (z | z); exact k0 z; exact z hl)]
              have hpl := (nI_ltI hp (by omega)).mp hl
              obtain ⟨f1, f2⟩ := Ps_from x1 (k := q) (by omega)
              have g0 : am_gA σ1 11 0 176 = some 177 := gA_of (Ps_ob x1).1 rfl
              simp only [a38, g0, f1, f2, Ps_byte x1 hqQ hpl, Option.bind_some]
              refine ⟨σ1, _, rfl, q2, fun _ => ?_, q3'⟩
              have e : Q[q].1.getD p 0 = Q[q].1[p] := by simp [hpl]
              simp only [e]
            · rw [if_neg hl, if_pos (Or.inr hl)]
              obtain ⟨σ', v, t1, t2, t3⟩ := ref
              exact ⟨σ', v, t1, t2, fun z => absurd (show (2 : Int32) = 0 from z) (by decide), t3⟩
          · simp only [if_neg w0]
            rw [s1, Option.bind_some]
            by_cases hl : nI p < nI (rcT (snR s.2.2.2.2.1 s.2.2.2.2.2 q)).length
            · rw [if_pos hl, if_neg (by rintro (z | z); exact k0 z; exact z hl)]
              have hpl := (nI_ltI hp (by omega)).mp hl
              simp only [s2, s3, Option.bind_some]
              obtain ⟨b1, b2, bf, b3, b4⟩ := q2.2.2.2.2.1
              have hBs := hz.2.2.1
              by_cases hs : 0 ≤ sb'
              · rw [if_pos hs] at s4 ⊢
                obtain ⟨z1, z2⟩ := s4
                obtain ⟨kb, hkb⟩ := Option.isSome_iff_exists.mp z2
                rw [hkb] at z1
                rw [r2] at hkb hpl ⊢
                obtain ⟨hk, ek⟩ := r4 kb hkb
                have hg := flat_get (Q := s.2.2.1) (k := kb) (j := p) hk (by rw [ek]; exact hpl)
                obtain ⟨hlt, hg2⟩ := List.getElem?_eq_some_iff.mp hg
                simp only [a2', a3', z1, oI_some, Option.bind_some]
                rw [lI_of b3.1 (by omega) (by omega), Option.bind_some, b4 kb (by omega), nI_add, Ro_get b1 hlt, hg2]
                refine ⟨σ1, _, rfl, q2, fun _ => ?_, q3'⟩
                simp [ek, hpl]
              · rw [if_neg hs] at s4 ⊢
                rw [s4] at y4
                obtain ⟨w1, st, w2, w3, w4⟩ := y4
                have hTl := Ro_len x2
                simp only [a39, a40, Option.bind_some]
                rw [lI_of x3.1 (by omega) (by omega), Option.bind_some, w2, nI_add, Ro_get x2 (j := st + p) (by omega)]
                refine ⟨σ1, _, rfl, q2, fun _ => ?_, q3'⟩
                have e := slB_get (t := T) (i := st) (j := st + (rcT (snR s.2.2.2.2.1 s.2.2.2.2.2 q)).length) (k := p) (by omega)
                rw [w4, List.getElem?_eq_getElem hpl, List.getElem?_eq_getElem (by omega)] at e
                rw [← Option.some.inj e]
                simp [hpl]
            · rw [if_neg hl, if_pos (Or.inr hl)]
              obtain ⟨σ', v, t1, t2, t3⟩ := ref
              exact ⟨σ', v, t1, t2, fun z => absurd (show (2 : Int32) = 0 from z) (by decide), t3⟩
      · rw [if_pos (nI_le (by omega) hq), if_neg (by simp [c2])]
        obtain ⟨σ', v, t1, t2, t3⟩ := ref
        exact ⟨σ', v, t1, t2, fun z => absurd (show (2 : Int32) = 0 from z) (by decide), t3⟩
end MR
