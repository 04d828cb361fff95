/-! ===== L3: MapMerger: put, drop, copy ===== -/
/-- how a code stands for an exception -/
def cod (thr ans v : Int32) : Prop := thr = 1 ∧ v = -2 ∨ thr = 2 ∧ v = -3 ∨ thr = 0 ∧ v = ans ∧ 0 ≤ v
def cod4 (thr ans v : Int32) : Prop := thr = 1 ∧ v = -2 ∨ thr = 2 ∧ v = -4 ∨ thr = 0 ∧ v = ans ∧ 0 ≤ v
theorem pos_ne {v : Int32} (h : 0 ≤ v) : ¬ v = -2 ∧ ¬ v = -3 ∧ ¬ v = -4 := by
  refine ⟨fun e => ?_, fun e => ?_, fun e => ?_⟩ <;> (rw [e] at h; exact absurd h (by decide))
section MP
variable {σ : am_S} {F : Nat} {s : MSS}
theorem MSW.arg (hw : MSW s) (h : MMI σ s) {k : Nat} (hk : k < s.1.length) : isB s.1[k] := by
  have h3 := h.2.2.2.1
  refine ⟨?_, fun x hx => hw.1 x ?_⟩
  · have h2 := h3.2.1
    have := sl_get_le hk
    omega
  · rw [List.mem_append, List.mem_flatten]
    exact Or.inl ⟨_, List.getElem_mem hk, hx⟩
theorem MM_firstPath (h : MMI σ s) (h1 : 1 ≤ s.1.length) (hF : 32768 < F) : f_MM_firstArgumentIsPath F σ 8 = some (bo (okPath (s.1.getD 0 []))) := by
  obtain ⟨h0, k1, -, h3, -⟩ := h
  have hb := In_bytes (F := F) h3
  have hl := In_alen (F := F) (k := 0) h3 (by omega)
  obtain ⟨bs, r1, r2⟩ := In_row h3
  obtain ⟨r3, r4⟩ := r2 0 (by omega)
  have e0 : sl (s.1.take 0) = 0 := rfl
  rw [e0] at r3 r4
  have hp := Rw_path (F := F) (s := 0) (n := s.1[0].length) r1 (by omega) (by omega) (by omega)
  rw [r4] at hp
  have eg : s.1.getD 0 [] = s.1[0] := getD_of (by omega)
  unfold f_MM_firstArgumentIsPath
  rw [nI_0] at hl hp
  rw [am_ck_of k1, eg]
  simp only [(c8 k1).1, hb, hl, hp, Option.bind_some]
  rw [if_pos (bo_or _)]
theorem MM_putArgs (h : MMI σ s) (hw : MSW s) (m : Int32) (hF : 32768 < F) : ∃ v σ2, f_MM_putArguments F σ 8 m = some (v, σ2) ∧ cod (opPut m s).1 (opPut m s).2.1 v ∧ Fr (fun a => 12 ≤ a ∧ a < 38) σ σ2 ∧ MMI σ2 (s.1, (opPut m s).2.2.2) ∧ (opPut m s).2.2.1 = [] ∧ (opPut m s).2.2.2.1 = s.2.1 := by
  obtain ⟨as, inp, B, P, R⟩ := s
  have hh := h
  obtain ⟨h0, k1, -, h3, h4, h5, h6, -⟩ := h
  simp only at h3 h4 h6
  have hfr : Fr (fun a => 12 ≤ a ∧ a < 38) σ σ := Fr.refl _ _
  have hcnt := In_count (F := F) h3
  have hal := h3.1
  unfold f_MM_putArguments
  rw [am_ck_of k1, MM_isMap, Option.bind_some]
  cases hm : isM m with
  | false =>
    have eo : opPut m (as, inp, B, P, R) = (1, 0, ([], inp, B, P, R)) := by unfold opPut; simp [hm]
    rw [if_pos (show bo false = 0 by decide), eo]
    exact ⟨-2, σ, rfl, Or.inl ⟨rfl, rfl⟩, hfr, hh, rfl, rfl⟩
  | true =>
    rw [if_neg (show ¬ bo true = 0 by decide), (c8 k1).1, Option.bind_some, hcnt, Option.bind_some]
    have e2 : (nI as.length = 2) ↔ as.length = 2 := nI_eq (b := 2) (by omega) (by omega)
    simp only [e2]
    by_cases hl : as.length = 2
    · rw [if_pos hl]
      have hfp := MM_firstPath (F := F) hh (by simp only; omega) hF
      simp only at hfp
      rw [hfp, Option.bind_some]
      cases hp : okPath (as.getD 0 []) with
      | false =>
        have eo : opPut m (as, inp, B, P, R) = (1, 0, ([], inp, B, P, R)) := by unfold opPut; simp only [hm, hp, Bool.and_false, if_neg Bool.false_ne_true]
        rw [if_pos (show bo false = 0 by decide), eo]
        exact ⟨-2, σ, rfl, Or.inl ⟨rfl, rfl⟩, hfr, hh, rfl, rfl⟩
      | true =>
        rw [if_neg (show ¬ bo true = 0 by decide)]
        obtain ⟨k, hk3, hmk, hmk2⟩ := isM_lt hm
        have hPk := h6 k hk3
        obtain ⟨hs, hv, hn⟩ := hw.2.1 k hk3
        simp only at hs hv
        have q0 : as.getD 0 [] = as[0] := getD_of (by omega)
        have q1 : as.getD 1 [] = as[1] := getD_of (by omega)
        have hB0 : isB as[0] := hw.arg hh (k := 0) (by simp only; omega)
        obtain ⟨bs, r1, r2⟩ := In_row h3
        obtain ⟨r3, r4⟩ := r2 0 (by omega)
        obtain ⟨r5, r6⟩ := r2 1 (by omega)
        have e0 : sl (as.take 0) = 0 := rfl
        rw [e0] at r3 r4
        have hby := In_bytes (F := F) h3
        have l0 := In_alen (F := F) (k := 0) h3 (by omega)
        have l1 := In_alen (F := F) (k := 1) h3 (by omega)
        have st1 := In_start (F := F) (k := 1) h3 (by omega)
        have hfit := Pm_fit (F := F) (st := 0) (n := as[0].length) hPk hs r1 (by omega) (by omega) (by omega) (by rw [r4]; exact hB0)
        rw [r4] at hfit
        have hmap := MM_map hh hk3
        rw [← hmk] at hmap
        rw [nI_0] at l0 hfit
        have n1 : nI 1 = 1 := rfl
        rw [n1] at l1 st1
        simp only [(c8 k1).1, (c8 k1).2.2.1, (c8 k1).2.1, hby, l0, hmap, hfit, l1, st1, Option.bind_some]
        simp only [bo_0]
        have eo : opPut m (as, inp, B, P, R) = ((if ((fnd (P k) as[0]).isSome || room (P k) as[0]) = true then if ((bfnd B as[1]).isSome || bRoom B as[1]) = true then (0, nI ((bfnd B as[1]).getD B.length), ([], inp, bAdd B as[1], upP P k (asgP (P k) as[0] (nI ((bfnd B as[1]).getD B.length))), R)) else (2, 0, ([], inp, B, P, R)) else (2, 0, ([], inp, B, P, R))) : Int32 × Int32 × MSS) := by
          unfold opPut
          simp only
          rw [if_pos (show (isM m && decide (as.length = 2) && okPath (as.getD 0 [])) = true by rw [hm, hp, decide_eq_true hl]; rfl), hmk2, q0, q1]
        rw [eo]
        by_cases hft : ((fnd (P k) as[0]).isSome || room (P k) as[0]) = true
        · rw [if_neg (by rw [hft]; decide), if_pos hft]
          obtain ⟨σ1, f1, f2, f3, f4⟩ := Bl_findOrAdd (F := F) (b := 10) (st := sl (as.take 1)) (n := as[1].length) h4 (by omega) r1 (by omega) r5 (by omega) hF
          rw [r6] at f1 f2
          rw [f1]
          simp only [am_b2, Option.bind_some]
          have W1 : Wz σ1 12 := by
            obtain ⟨wt, z1, z2⟩ := h5
            exact ⟨wt, f4.trans z1, z2⟩
          have M1 := hh.blo f3 f2 W1
          have hB5 : B.length ≤ 500 := by
            obtain ⟨by_, st, ro, fl, lc, wt, ls, ll, lk, lh, lch, -, -, ⟨w, -⟩, -⟩ := h4
            exact w
          by_cases hbt : ((bfnd B as[1]).isSome || bRoom B as[1]) = true
          · simp only [if_pos hbt] at M1 ⊢
            have hnum : (bfnd B as[1]).getD B.length ≤ 500 := by
              cases hz : bfnd B as[1] with
              | none => exact hB5
              | some j =>
                obtain ⟨hj, -⟩ := bfnd_lt hz
                simp only [Option.getD_some]
                omega
            rw [if_pos (nI_pos' (by omega))]
            have k2 := f3.at (a := 8) (by omega) k1
            have hmap2 := MM_map M1 hk3
            rw [← hmk] at hmap2
            have hP1 := hPk.fr f3 fun a _ _ => by omega
            obtain ⟨σ2, g1, g2, g3⟩ := Pm_assign (F := F) (st := 0) (n := as[0].length) (v := nI ((bfnd B as[1]).getD B.length)) hP1 hs (by omega) (by rw [r4]; exact hft) (f3.at (a := 10) (by omega) r1) (by omega) (by omega) (by omega) (by omega) (by rw [r4]; exact hB0)
            rw [r4] at g2
            rw [nI_0] at g1
            simp only [(c8 k2).2.2.1, hmap2, g1, Option.bind_some]
            exact ⟨_, σ2, rfl, Or.inr (Or.inr ⟨rfl, rfl, nI_pos' (by omega)⟩), (f3.mono fun a ha => ⟨by omega, by omega⟩).trans (g3.mono fun a ha => ⟨by omega, by omega⟩), M1.map hk3 g3 g2, by trivial, by trivial⟩
          · simp only [if_neg hbt] at M1 ⊢
            rw [if_neg (by decide)]
            exact ⟨-3, σ1, rfl, Or.inr (Or.inl ⟨rfl, rfl⟩), f3.mono fun a ha => ⟨by omega, by omega⟩, M1, by trivial, by trivial⟩
        · rw [if_pos (by simpa using hft), if_neg hft]
          exact ⟨-3, σ, rfl, Or.inr (Or.inl ⟨rfl, rfl⟩), hfr, hh, rfl, rfl⟩
    · rw [if_neg hl]
      have eo : opPut m (as, inp, B, P, R) = (1, 0, ([], inp, B, P, R)) := by unfold opPut; simp [hl]
      rw [eo]
      exact ⟨-2, σ, rfl, Or.inl ⟨rfl, rfl⟩, hfr, hh, rfl, rfl⟩
theorem Lw_put (h : MMI σ s) (hw : MSW s) {bx : Nat} {f : Nat → Value} (hb : 95 ≤ bx) (hbx : bx < σ.1) (hx : σ.2.2 bx = some (.inl (.long, 1, f))) (m : Int32) (hF : 32768 < F) : ∃ σ', f_Lw_put F σ 8 m bx = some ((opPut m s).1, σ') ∧ MMI σ' (opPut m s).2.2 ∧ Bx bx σ σ' (opPut m s).1 (opPut m s).2.1 := by
  obtain ⟨v, σ2, q1, q2, q3, q4, q5, q6⟩ := MM_putArgs h hw m hF
  generalize opPut m s = O at *
  obtain ⟨thr, ans, as', inp', X⟩ := O
  simp only at q2 q4 q5 q6
  subst q5
  have k1 := h.2.1
  have k2 := q4.2.1
  obtain ⟨σ4, t1, t2, t3⟩ := In_take (F := F) q4.2.2.2.1 (by omega)
  have M4 := q4.inb t3 t2
  simp only at M4
  have W : Fr (fun a => 9 ≤ a ∧ a < 38) σ σ4 := (q3.mono fun a ha => ⟨by omega, ha.2⟩).trans (t3.mono fun a ha => ⟨by omega, by omega⟩)
  unfold f_Lw_put f_MM_put f_MM_answerOrThrow
  rw [am_ck_of k1, q1]
  simp only [am_b2, Option.bind_some, (c8 k2).1, t1]
  rcases q2 with ⟨e1, e2⟩ | ⟨e1, e2⟩ | ⟨e1, e2, e3⟩
  · subst e1 e2
    refine ⟨am_nx σ4 13, ?_, M4.nx 13, Bx.nx hbx hx W (fun a ha => by omega) 13 (show ¬ (1 : Int32) = 0 by decide)⟩
    simp only [if_true, am_bt, am_btf, Option.bind_some]
    rw [nx_is]
    rfl
  · subst e1 e2
    refine ⟨am_nx σ4 14, ?_, M4.nx 14, Bx.nx hbx hx W (fun a ha => by omega) 14 (show ¬ (2 : Int32) = 0 by decide)⟩
    rw [if_neg (show ¬ (-3 : Int32) = -2 by decide)]
    simp only [if_true, am_bt, am_btf, Option.bind_some]
    rw [nx_is, nx_is]
    rfl
  · subst e1
    obtain ⟨n1, n2, n3⟩ := pos_ne e3
    rw [if_neg n1, if_neg n2, if_neg n3]
    obtain ⟨σ5, e5, b5, w5⟩ := sL_put (v := v) (W.at (a := bx) (by omega) hx) (by omega)
    refine ⟨σ5, ?_, M4.fh w5.h (fun a ha z => by omega) (by rw [w5.1]; exact M4.1), Bx.ok hbx W (fun a ha => by omega) w5 (by rw [← e2]; exact b5)⟩
    simp only [am_bt, am_btf, Option.bind_some]
    rw [e5, Option.bind_some]
theorem MM_dropArg (h : MMI σ s) (hw : MSW s) (m : Int32) (hF : 32768 < F) : ∃ v σ2, f_MM_dropArgument F σ 8 m = some (v, σ2) ∧ cod4 (opDrop m s).1 (opDrop m s).2.1 v ∧ Fr (fun a => 12 ≤ a ∧ a < 38) σ σ2 ∧ MMI σ2 (s.1, (opDrop m s).2.2.2) ∧ (opDrop m s).2.2.1 = [] := by
  obtain ⟨as, inp, B, P, R⟩ := s
  have hh := h
  obtain ⟨h0, k1, -, h3, h4, h5, h6, -⟩ := h
  simp only at h3 h4 h6
  have hfr : Fr (fun a => 12 ≤ a ∧ a < 38) σ σ := Fr.refl _ _
  have hcnt := In_count (F := F) h3
  have hal := h3.1
  unfold f_MM_dropArgument
  rw [am_ck_of k1, MM_isMap, Option.bind_some]
  cases hm : isM m with
  | false =>
    have eo : opDrop m (as, inp, B, P, R) = (1, 0, ([], inp, B, P, R)) := by unfold opDrop; simp [hm]
    rw [if_pos (show bo false = 0 by decide), eo]
    exact ⟨-2, σ, rfl, Or.inl ⟨rfl, rfl⟩, hfr, hh, rfl⟩
  | true =>
    rw [if_neg (show ¬ bo true = 0 by decide), (c8 k1).1, Option.bind_some, hcnt, Option.bind_some]
    have e2 : (nI as.length = 1) ↔ as.length = 1 := nI_eq (b := 1) (by omega) (by omega)
    simp only [e2]
    by_cases hl : as.length = 1
    · rw [if_pos hl]
      have hfp := MM_firstPath (F := F) hh (by simp only; omega) hF
      simp only at hfp
      rw [hfp, Option.bind_some]
      cases hp : okPath (as.getD 0 []) with
      | false =>
        have eo : opDrop m (as, inp, B, P, R) = (1, 0, ([], inp, B, P, R)) := by unfold opDrop; simp only [hm, hp, Bool.and_false, if_neg Bool.false_ne_true]
        rw [if_pos (show bo false = 0 by decide), eo]
        exact ⟨-2, σ, rfl, Or.inl ⟨rfl, rfl⟩, hfr, hh, rfl⟩
      | true =>
        rw [if_neg (show ¬ bo true = 0 by decide)]
        obtain ⟨k, hk3, hmk, hmk2⟩ := isM_lt hm
        have hPk := h6 k hk3
        obtain ⟨hs, hv, hn⟩ := hw.2.1 k hk3
        simp only at hs hv
        have hPl := hPk.lt
        have q0 : as.getD 0 [] = as[0] := getD_of (by omega)
        have hB0 : isB as[0] := hw.arg hh (k := 0) (by simp only; omega)
        obtain ⟨bs, r1, r2⟩ := In_row h3
        obtain ⟨r3, r4⟩ := r2 0 (by omega)
        have e0 : sl (as.take 0) = 0 := rfl
        rw [e0] at r3 r4
        have hby := In_bytes (F := F) h3
        have l0 := In_alen (F := F) (k := 0) h3 (by omega)
        have hfd := Pm_find (F := F) (st := 0) (n := as[0].length) hPk hs r1 (by omega) (by omega) (by omega) (by rw [r4]; exact hB0)
        rw [r4] at hfd
        have hmap := MM_map hh hk3
        rw [← hmk] at hmap
        rw [nI_0] at l0 hfd
        simp only [(c8 k1).1, (c8 k1).2.2.1, (c8 k1).2.1, hby, l0, hmap, hfd, Option.bind_some]
        have eo : opDrop m (as, inp, B, P, R) = match fnd (P k) as[0] with
            | some i => (0, 0, ([], inp, B, upP P k (delP (P k) i), R))
            | none => (2, 0, ([], inp, B, P, R)) := by
          unfold opDrop
          simp only
          rw [if_pos (show (isM m && decide (as.length = 1) && okPath (as.getD 0 [])) = true by rw [hm, hp, decide_eq_true hl]; rfl), hmk2, q0]
          cases fnd (P k) as[0] <;> rfl
        rw [eo]
        cases hf : fnd (P k) as[0] with
        | none =>
          rw [if_neg (show ¬ (0 : Int32) ≤ oI none by decide)]
          exact ⟨-4, σ, rfl, Or.inr (Or.inl ⟨rfl, rfl⟩), hfr, hh, rfl⟩
        | some i =>
          have hi := fnd_lt hf
          rw [if_pos (show (0 : Int32) ≤ oI (some i) from nI_pos' (by omega))]
          obtain ⟨σ2, g1, g2, g3⟩ := Pm_remove (F := F) (k := i) hPk (by omega) hi (by omega)
          rw [oI_some, g1]
          exact ⟨0, σ2, rfl, Or.inr (Or.inr ⟨rfl, rfl, by decide⟩), g3.mono fun a ha => ⟨by omega, by omega⟩, hh.map hk3 g3 g2, rfl⟩
    · rw [if_neg hl]
      have eo : opDrop m (as, inp, B, P, R) = (1, 0, ([], inp, B, P, R)) := by unfold opDrop; simp [hl]
      rw [eo]
      exact ⟨-2, σ, rfl, Or.inl ⟨rfl, rfl⟩, hfr, hh, rfl⟩
theorem Lw_drop (h : MMI σ s) (hw : MSW s) (m : Int32) (hF : 32768 < F) : ∃ σ', f_Lw_drop F σ 8 m = some ((opDrop m s).1, σ') ∧ MMI σ' (opDrop m s).2.2 ∧ Cf σ σ' := by
  obtain ⟨v, σ2, q1, q2, q3, q4, q5⟩ := MM_dropArg h hw m hF
  generalize opDrop m s = O at *
  obtain ⟨thr, ans, as', inp', X⟩ := O
  simp only at q2 q4 q5
  subst q5
  have k1 := h.2.1
  have k2 := q4.2.1
  obtain ⟨σ4, t1, t2, t3⟩ := In_take (F := F) q4.2.2.2.1 (by omega)
  have M4 := q4.inb t3 t2
  simp only at M4
  have W : Fr (fun a => 9 ≤ a ∧ a < 38) σ σ4 := (q3.mono fun a ha => ⟨by omega, ha.2⟩).trans (t3.mono fun a ha => ⟨by omega, by omega⟩)
  unfold f_Lw_drop f_MM_drop f_MM_answerOrThrow
  rw [am_ck_of k1, q1]
  simp only [am_b2, Option.bind_some, (c8 k2).1, t1]
  rcases q2 with ⟨e1, e2⟩ | ⟨e1, e2⟩ | ⟨e1, e2, e3⟩
  · subst e1 e2
    refine ⟨am_nx σ4 13, ?_, M4.nx 13, Cf.nx W (fun a ha => by omega) 13⟩
    simp only [if_true, am_bt, am_btf, Option.bind_some]
    rw [nx_is]
    rfl
  · subst e1 e2
    refine ⟨am_nx σ4 15, ?_, M4.nx 15, Cf.nx W (fun a ha => by omega) 15⟩
    rw [if_neg (show ¬ (-4 : Int32) = -2 by decide), if_neg (show ¬ (-4 : Int32) = -3 by decide)]
    simp only [if_true, am_bt, am_btf, Option.bind_some]
    rw [nx_is, nx_is]
    rfl
  · subst e1
    obtain ⟨n1, n2, n3⟩ := pos_ne e3
    rw [if_neg n1, if_neg n2, if_neg n3]
    refine ⟨σ4, ?_, M4, Cf.of W fun a ha => by omega⟩
    simp only [am_bt, am_btf, Option.bind_some]
theorem Lw_copy (h : MMI σ s) (a b : Int32) : ∃ σ', f_Lw_copy F σ 8 a b = some ((opCopy a b s).1, σ') ∧ MMI σ' (opCopy a b s).2.2 ∧ Cf σ σ' := by
  obtain ⟨as, inp, B, P, R⟩ := s
  have k1 := h.2.1
  have h3 := h.2.2.2.1
  have h6 := h.2.2.2.2.2.2.1
  simp only at h3 h6
  have hcnt := In_count (F := F) h3
  have hal := h3.1
  obtain ⟨σ4, t1, t2, t3⟩ := In_take (F := F) h3 (by omega)
  have M4 := h.inb t3 t2
  have k4 := M4.2.1
  simp only at M4
  have bad : opCopy a b (as, inp, B, P, R) = (1, 0, ([], inp, B, P, R)) → ∃ σ', (am_bt (f_MM_copy_j24 F 8 a b σ) (fun a1 σ2 => if am_isx σ2 13 a1 = true then some ((1 : Int32), σ2) else none) fun _ σ4 => some (0, σ4)) = some ((opCopy a b (as, inp, B, P, R)).1, σ') ∧ MMI σ' (opCopy a b (as, inp, B, P, R)).2.2 ∧ Cf σ σ' := by
    intro e
    rw [e]
    refine ⟨am_nx σ4 13, ?_, M4.nx 13, Cf.nx t3 (fun a ha => by omega) 13⟩
    unfold f_MM_copy_j24 f_MM_copy_j29
    simp only [(c8 k1).1, t1, Option.bind_some]
    rw [if_neg (by decide)]
    simp only [am_bt, am_btf, Option.bind_some]
    rw [nx_is]
    rfl
  unfold f_Lw_copy f_MM_copy
  rw [am_ck_of k1, MM_isMap, Option.bind_some]
  cases ha : isM a with
  | false =>
    rw [if_pos (show bo false = 0 by decide)]
    exact bad (by unfold opCopy; simp [ha])
  | true =>
    rw [if_neg (show ¬ bo true = 0 by decide), MM_isMap, Option.bind_some]
    cases hb : isM b with
    | false =>
      rw [if_pos (show bo false = 0 by decide)]
      exact bad (by unfold opCopy; simp [hb])
    | true =>
      rw [if_neg (show ¬ bo true = 0 by decide), (c8 k1).1, Option.bind_some, hcnt, Option.bind_some]
      have e2 : (nI as.length = 0) ↔ as.length = 0 := nI_eq (b := 0) (by omega) (by omega)
      simp only [e2]
      by_cases hl : as.length = 0
      · rw [if_pos hl]
        obtain ⟨i, hi, ei, ei2⟩ := isM_lt ha
        obtain ⟨j, hj, ej, ej2⟩ := isM_lt hb
        have eo : opCopy a b (as, inp, B, P, R) = (0, 0, ([], inp, B, upP P j (P i), R)) := by
          unfold opCopy
          simp only
          rw [if_pos (show (isM a && isM b && decide (as.length = 0)) = true by rw [ha, hb, decide_eq_true hl]; rfl), ei2, ej2]
        rw [eo]
        have hi6 := (h6 i hi).fr t3 fun a _ _ => by omega
        have hj6 := (h6 j hj).fr t3 fun a _ _ => by omega
        obtain ⟨σ5, g1, g2, g3⟩ := Pm_become (F := F) hj6 (by omega) hi6 (by omega)
        have m1 := MM_map M4 hi
        have m2 := MM_map M4 hj
        rw [← ei] at m1
        rw [← ej] at m2
        refine ⟨σ5, ?_, M4.map hj g3 g2, Cf.of ((t3.mono fun a (ha : InS 9 a) => (⟨by omega, by omega⟩ : 9 ≤ a ∧ a < 38)).trans (g3.mono fun a ha => ⟨by omega, by omega⟩)) fun a ha => by omega⟩
        unfold f_MM_copy_j29
        simp only [(c8 k1).1, (c8 k4).2.2.1, t1, m1, m2, g1, Option.bind_some, if_true, am_bt, am_btf]
      · rw [if_neg hl]
        exact bad (by unfold opCopy; simp [hl])
end MP
