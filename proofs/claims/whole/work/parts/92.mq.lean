/-! ===== L3: MapMerger: merge, renamed, outcome, letter, blob, count ===== -/
def opMerge (s : MSS) : Int32 × Int32 × MSS := match s with
  | (as, inp, B, P, R) => if as.length = 0 then
      match mrgM B (P 0) (P 1) (P 2) with
      | none => (2, 0, ([], inp, B, P, R))
      | some x => (0, nI (uct x.2), ([], inp, B, P, x))
    else (1, 0, ([], inp, B, P, R))
def rnV (B : List (List Int32)) (A C : PL) (g : Nat) (w : Int32) : Int32 := if w = 0 then nI ((gA A C).getD g 0) else match (rnS B A C).1 g with
  | some (c, v) => if w = 1 then nI ((gA C A).getD c 0) else nI v
  | none => 0
def opRen (a b i w : Int32) (s : MSS) : Int32 × Int32 × MSS := match s with
  | (as, inp, B, P, R) => if (isM a && isM b && !decide (a = b) && decide (¬ w < 0) && decide (w ≤ 2)) = true then
      match (if i < 0 then none else (rnl (rnS B (P a.toNatClampNeg) (P b.toNatClampNeg)) (gA (P a.toNatClampNeg) (P b.toNatClampNeg)).length)[i.toNatClampNeg]?) with
      | none => (2, 0, (as, inp, B, P, R))
      | some g => (0, rnV B (P a.toNatClampNeg) (P b.toNatClampNeg) g w, (as, inp, B, P, R))
    else (1, 0, (as, inp, B, P, R))
def rcT (r : Rc) : List Int32 := match r.2.2.2.2 with
  | some (_, t) => t
  | none => []
def rcB (r : Rc) : Option Nat := match r.2.2.2.2 with
  | some (b, _) => b
  | none => none
def snP (Pl : PL) (i : Nat) : List Int32 := (Pl.getD i ([], 0)).1
def snR (Pl : PL) (L : List Rc) (i : Nat) : Rc := L.getD (Pl.getD i ([], 0)).2.toNatClampNeg (false, 0, 0, 0, none)
def ouV (Pl : PL) (L : List Rc) (i : Nat) (w : Int32) : Int32 := if w = 0 then nI (snP Pl i).length else if w = 1 then bo (snR Pl L i).1 else if w = 2 then nI (rcT (snR Pl L i)).length else if w = 3 then (if (snR Pl L i).1 = true then (snR Pl L i).2.1 else -1) else if w = 4 then (if (snR Pl L i).1 = true then (snR Pl L i).2.2.1 else -1) else if w = 5 then (if (snR Pl L i).1 = true then (snR Pl L i).2.2.2.1 else -1) else oI (rcB (snR Pl L i))
def opOut (i w : Int32) (s : MSS) : Int32 × Int32 × MSS := if (decide (¬ w < 0) && decide (w ≤ 6)) = true then
    if (decide (¬ i < 0 ∧ i.toNatClampNeg < s.2.2.2.2.1.length)) = true then (0, ouV s.2.2.2.2.1 s.2.2.2.2.2 i.toNatClampNeg w, s) else (2, 0, s)
  else (1, 0, s)
def leL (Pl : PL) (L : List Rc) (i : Nat) (w : Int32) : List Int32 := if w = 0 then snP Pl i else rcT (snR Pl L i)
def opLet (i w k : Int32) (s : MSS) : Int32 × Int32 × MSS := if (decide (¬ w < 0) && decide (w ≤ 1)) = true then
    if (decide (¬ i < 0 ∧ i.toNatClampNeg < s.2.2.2.2.1.length)) = true then
      if k < 0 ∨ ¬ k < nI (leL s.2.2.2.2.1 s.2.2.2.2.2 i.toNatClampNeg w).length then (2, 0, s) else (0, (leL s.2.2.2.2.1 s.2.2.2.2.2 i.toNatClampNeg w).getD k.toNatClampNeg 0 &&& 255, s)
    else (2, 0, s)
  else (1, 0, s)
def opBlob (m i : Int32) (s : MSS) : Int32 × Int32 × MSS := if isM m = true then
    if (decide (¬ i < 0 ∧ i.toNatClampNeg < (s.2.2.2.1 m.toNatClampNeg).length)) = true then (0, valI (s.2.2.2.1 m.toNatClampNeg) i.toNatClampNeg, s) else (2, 0, s)
  else (1, 0, s)
def coV (w : Int32) (s : MSS) : Int32 := if w = 0 then nI (s.2.2.2.1 0).length else if w = 1 then nI (s.2.2.2.1 1).length else if w = 2 then nI (s.2.2.2.1 2).length else if w = 3 then nI s.2.2.1.length else if w = 4 then nI (sl s.2.2.1) else if w = 5 then nI s.2.2.2.2.1.length else if w = 6 then nI s.2.1.length else if w = 7 then nI s.1.length else -1
section MQ
variable {σ : am_S} {F : Nat} {s : MSS}
theorem Lw_merge (h : MMI σ s) (hw : MSW s) {bx : Nat} {f : Nat → Value} (hb : 95 ≤ bx) (hbx : bx < σ.1) (hx : σ.2.2 bx = some (.inl (.long, 1, f))) (hF : 32768 < F) : ∃ σ', f_Lw_merge F σ 8 bx = some ((opMerge s).1, σ') ∧ MMI σ' (opMerge s).2.2 ∧ Bx bx σ σ' (opMerge s).1 (opMerge s).2.1 ∧ ((opMerge s).1 = 0 → Srt (opMerge s).2.2.2.2.2.2.1) := by
  obtain ⟨as, inp, B, P, Pl, L⟩ := s
  have k1 := h.2.1
  have h3 := h.2.2.2.1
  simp only at h3
  have hcnt := In_count (F := F) h3
  have hal := h3.1
  obtain ⟨σ1, t1, t2, t3⟩ := In_take (F := F) h3 (by omega)
  have M1 := h.inb t3 t2
  have k2 := M1.2.1
  simp only at M1
  have W1 : Fr (fun a => 9 ≤ a ∧ a < 95) σ σ1 := t3.mono fun a ha => ⟨by omega, by omega⟩
  unfold f_Lw_merge f_MM_merge
  rw [am_ck_of k1, (c8 k1).1, Option.bind_some, hcnt, Option.bind_some]
  have e2 : (nI as.length = 0) ↔ as.length = 0 := nI_eq (b := 0) (by omega) (by omega)
  simp only [e2]
  by_cases hl : as.length = 0
  · rw [if_pos hl]
    have hM1 := M1
    obtain ⟨g0, g1, ⟨fm, g2, g2'⟩, g3, g4, g5, g6, g7, ⟨lt, sp, g8, g9, g10⟩, g11⟩ := M1
    simp only at g3 g4 g6 g9
    obtain ⟨w0, w1, w2⟩ := hw
    simp only at w1
    obtain ⟨s0, v0, -⟩ := w1 0 (by omega)
    obtain ⟨s1, v1, -⟩ := w1 1 (by omega)
    obtain ⟨s2, v2, -⟩ := w1 2 (by omega)
    have hm := Mg_merge (F := F) (o := 45) (p0 := 26) (p1 := 30) (p2 := 34) (bl := 12) (by omega) (by omega) (by omega) (by omega) (by omega) (by omega) (by omega) (by omega) v0 v1 v2 s0 s1 s2 hF g4 g5 g11 (g6 0 (by omega)) (g6 1 (by omega)) (g6 2 (by omega)) g8 g9 g10
    unfold f_MM_merge_j15
    simp only [(c8 k1).1, t1, (c8 k2).2.2.2.2, Option.bind_some, if_true]
    unfold opMerge
    simp only [hl, if_true]
    cases hmm : mrgM B (P 0) (P 1) (P 2) with
    | none =>
      simp only [hmm] at hm
      obtain ⟨σ2, q1, q2, q3, q4, q5, q6, q7⟩ := hm
      have W2 : Fr (fun a => 9 ≤ a ∧ a < 95) σ σ2 := W1.trans (q7.mono fun a ha => ⟨by omega, by omega⟩)
      have M2 : MMI σ2 ([], inp, B, P, Pl, L) := ⟨by rw [q7.1]; exact g0, q7.at (by omega) g1, ⟨fm, q7.at (by omega) g2, g2'⟩, g3.fr q7 fun a _ _ z => by omega, q5, q6, fun k hk => (g6 k hk).fr q7 fun a _ _ z => by omega, g7.fr q7 fun a _ _ z => by omega, ⟨lt, sp, q2, q3, q4⟩, g11.fr q7 fun a _ z => by omega⟩
      rw [q1]
      unfold f_MM_merge_j39 f_MM_answerOrThrow
      refine ⟨am_nx σ2 14, ?_, M2.nx 14, Bx.nx hbx hx W2 (fun a ha => by omega) 14 (show ¬ (2 : Int32) = 0 by decide), fun z => absurd (show (2 : Int32) = 0 from z) (by decide)⟩
      simp only [am_b2, Option.bind_some]
      rw [if_neg (show ¬ (-3 : Int32) = -2 by decide)]
      simp only [if_true, am_bt, am_btf, Option.bind_some]
      rw [nx_is, nx_is]
      rfl
    | some x =>
      simp only [hmm] at hm
      obtain ⟨σ2, q1, q2, q3, qs, q4, q5, q6, q7⟩ := hm
      have W2 : Fr (fun a => 9 ≤ a ∧ a < 95) σ σ2 := W1.trans (q7.mono fun a ha => ⟨by omega, by omega⟩)
      have M2 : MMI σ2 ([], inp, B, P, x) := ⟨by rw [q7.1]; exact g0, q7.at (by omega) g1, ⟨fm, q7.at (by omega) g2, g2'⟩, g3.fr q7 fun a _ _ z => by omega, q5, q6, fun k hk => (g6 k hk).fr q7 fun a _ _ z => by omega, g7.fr q7 fun a _ _ z => by omega, ⟨sp, lt, q2, q3, q4⟩, g11.fr q7 fun a _ z => by omega⟩
      have hu : uct x.2 ≤ 400 := Nat.le_trans (uct_le _) q3.len
      rw [q1]
      unfold f_MM_merge_j39 f_MM_answerOrThrow
      obtain ⟨n1, n2, n3⟩ := pos_ne (nI_pos' (n := uct x.2) (by omega))
      obtain ⟨σ3, e3, b3, w3⟩ := sL_put (v := nI (uct x.2)) (W2.at (a := bx) (by omega) hx) (by omega)
      refine ⟨σ3, ?_, M2.fh w3.h (fun a ha z => by omega) (by rw [w3.1]; exact M2.1), Bx.ok hbx W2 (fun a ha => by omega) w3 b3, fun _ => qs⟩
      simp only [am_b2, Option.bind_some]
      rw [if_neg n1, if_neg n2, if_neg n3]
      simp only [am_bt, am_btf, Option.bind_some]
      rw [e3, Option.bind_some]
  · rw [if_neg hl]
    have eo : opMerge (as, inp, B, P, Pl, L) = (1, 0, ([], inp, B, P, Pl, L)) := by unfold opMerge; simp only; rw [if_neg hl]
    rw [eo]
    refine ⟨am_nx σ1 13, ?_, M1.nx 13, Bx.nx hbx hx t3 (fun a ha => by omega) 13 (show ¬ (1 : Int32) = 0 by decide), fun z => absurd (show (1 : Int32) = 0 from z) (by decide)⟩
    unfold f_MM_merge_j15 f_MM_merge_j39 f_MM_answerOrThrow
    simp only [(c8 k1).1, t1, Option.bind_some]
    rw [if_neg (show ¬ (1 : Int32) = 0 by decide)]
    simp only [if_true, am_bt, am_btf, Option.bind_some]
    rw [nx_is]
    rfl
/-- an answer without a change -/
theorem read_ok {bx : Nat} {f : Nat → Value} {S : Nat → Prop} {σ1 : am_S} {s1 : MSS} {v : Int32} {E : Option ((Nat ⊕ Int32) × am_S)} {T : Nat → am_S → Option (Int32 × am_S)} (hb : 95 ≤ bx) (hbx : bx < σ.1) (hx : σ.2.2 bx = some (.inl (.long, 1, f))) (W : Fr S σ σ1) (hd : ∀ a, S a → 8 ≤ a ∧ a < 95) (M : MMI σ1 s1) (hE : E = some (.inr v, σ1)) : ∃ σ', (am_bt E T fun v3 σ4 => (am_sL σ4 bx 0 (v3.toInt64)).bind fun σ5 => some (0, σ5)) = some (0, σ') ∧ MMI σ' s1 ∧ Bx bx σ σ' 0 v := by
  obtain ⟨σ3, e3, b3, w3⟩ := sL_put (v := v) (W.at (a := bx) (fun z => by have := hd _ z; omega) hx) (by omega)
  refine ⟨σ3, ?_, M.fh w3.h (fun a ha z => by omega) (by rw [w3.1]; exact M.1), Bx.ok hbx W hd w3 b3⟩
  rw [hE]
  simp only [am_bt, am_btf, Option.bind_some]
  rw [e3, Option.bind_some]
theorem read_bad {bx : Nat} {f : Nat → Value} {S : Nat → Prop} {σ1 : am_S} {s1 : MSS} {K : Int32 → am_S → Option (Int32 × am_S)} {E : Option ((Nat ⊕ Int32) × am_S)} (hb : 95 ≤ bx) (hbx : bx < σ.1) (hx : σ.2.2 bx = some (.inl (.long, 1, f))) (W : Fr S σ σ1) (hd : ∀ a, S a → 8 ≤ a ∧ a < 95) (M : MMI σ1 s1) (hE : E = some (.inl σ1.1, am_nx σ1 13)) : ∃ σ', (am_bt E (fun a1 σ2 => if am_isx σ2 13 a1 = true then some ((1 : Int32), σ2) else if am_isx σ2 15 a1 = true then some (2, σ2) else none) K) = some (1, σ') ∧ MMI σ' s1 ∧ Bx bx σ σ' 1 0 := by
  refine ⟨am_nx σ1 13, ?_, M.nx 13, Bx.nx hbx hx W hd 13 (show ¬ (1 : Int32) = 0 by decide)⟩
  rw [hE]
  simp only [am_bt, am_btf, Option.bind_some]
  rw [nx_is]
  rfl
theorem read_no {bx : Nat} {f : Nat → Value} {S : Nat → Prop} {σ1 : am_S} {s1 : MSS} {K : Int32 → am_S → Option (Int32 × am_S)} {E : Option ((Nat ⊕ Int32) × am_S)} (hb : 95 ≤ bx) (hbx : bx < σ.1) (hx : σ.2.2 bx = some (.inl (.long, 1, f))) (W : Fr S σ σ1) (hd : ∀ a, S a → 8 ≤ a ∧ a < 95) (M : MMI σ1 s1) (hE : E = some (.inl σ1.1, am_nx σ1 15)) : ∃ σ', (am_bt E (fun a1 σ2 => if am_isx σ2 13 a1 = true then some ((1 : Int32), σ2) else if am_isx σ2 15 a1 = true then some (2, σ2) else none) K) = some (2, σ') ∧ MMI σ' s1 ∧ Bx bx σ σ' 2 0 := by
  refine ⟨am_nx σ1 15, ?_, M.nx 15, Bx.nx hbx hx W hd 15 (show ¬ (2 : Int32) = 0 by decide)⟩
  rw [hE]
  simp only [am_bt, am_btf, Option.bind_some]
  rw [nx_is, nx_is]
  rfl
theorem Lw_ren (h : MMI σ s) (hw : MSW s) {bx : Nat} {f : Nat → Value} (hb : 95 ≤ bx) (hbx : bx < σ.1) (hx : σ.2.2 bx = some (.inl (.long, 1, f))) (a b i w : Int32) (hF : 32768 < F) : ∃ σ', f_Lw_renamed F σ 8 a b i w bx = some ((opRen a b i w s).1, σ') ∧ MMI σ' (opRen a b i w s).2.2 ∧ Bx bx σ σ' (opRen a b i w s).1 (opRen a b i w s).2.1 := by
  obtain ⟨as, inp, B, P, Pl, L⟩ := s
  have k1 := h.2.1
  have W0 : Fr (fun _ => False) σ σ := Fr.refl _ σ
  have hd0 : ∀ a, False → 8 ≤ a ∧ a < 95 := fun _ z => z.elim
  have bad : ∀ {E : Option ((Nat ⊕ Int32) × am_S)}, E = some (.inl σ.1, am_nx σ 13) → (isM a && isM b && !decide (a = b) && decide (¬ w < 0) && decide (w ≤ 2)) = false → ∃ σ', (am_bt E (fun a1 σ2 => if am_isx σ2 13 a1 = true then some ((1 : Int32), σ2) else if am_isx σ2 15 a1 = true then some (2, σ2) else none) fun v3 σ4 => (am_sL σ4 bx 0 (v3.toInt64)).bind fun σ5 => some (0, σ5)) = some ((opRen a b i w (as, inp, B, P, Pl, L)).1, σ') ∧ MMI σ' (opRen a b i w (as, inp, B, P, Pl, L)).2.2 ∧ Bx bx σ σ' (opRen a b i w (as, inp, B, P, Pl, L)).1 (opRen a b i w (as, inp, B, P, Pl, L)).2.1 := by
    intro E hE hc
    have eo : opRen a b i w (as, inp, B, P, Pl, L) = (1, 0, (as, inp, B, P, Pl, L)) := by unfold opRen; simp only; rw [hc]; rfl
    rw [eo]
    exact read_bad hb hbx hx W0 hd0 h hE
  unfold f_Lw_renamed f_MM_renamed
  rw [am_ck_of k1, MM_isMap, Option.bind_some]
  cases ha : isM a with
  | false => exact bad (by rw [if_pos (show bo false = 0 by decide)]) (by simp [ha])
  | true =>
    rw [if_neg (show ¬ bo true = 0 by decide), MM_isMap, Option.bind_some]
    cases hbm : isM b with
    | false => exact bad (by rw [if_pos (show bo false = 0 by decide)]) (by simp [hbm])
    | true =>
      rw [if_neg (show ¬ bo true = 0 by decide)]
      by_cases hab : a = b
      · exact bad (by rw [if_pos hab]) (by simp [hab])
      · rw [if_neg hab]
        by_cases hw0 : w < 0
        · exact bad (by rw [if_pos hw0]) (by simp [hw0])
        · rw [if_neg hw0]
          by_cases hw2 : w ≤ 2
          · rw [if_pos hw2]
            obtain ⟨x, hx3, ex, ex2⟩ := isM_lt ha
            obtain ⟨y, hy3, ey, ey2⟩ := isM_lt hbm
            have hxy : x ≠ y := fun z => hab (by rw [ex, ey, z])
            obtain ⟨g0, g1, ⟨fm, g2, g2'⟩, g3, g4, g5, g6, g7, ⟨lt, sp, g8, g9, Pl', L', g10⟩, g11⟩ := id h
            simp only at g3 g4 g6 g9
            have hls := g8.2.2.2.2.2.2.2.2.2
            obtain ⟨sx, vx, -⟩ := hw.2.1 x hx3
            obtain ⟨sy, vy, -⟩ := hw.2.1 y hy3
            simp only at sx vx sy vy
            obtain ⟨σ1, sc, q1, q2, q3, q4, q5⟩ := Rn_search (F := F) (o := 38) (p1 := 26 + 4 * x) (p2 := 26 + 4 * y) g7 g4 g5 (g6 x hx3) (g6 y hy3) sx sy vx vy (by omega) (by omega) (by omega) (by omega) (by omega) (by omega) hF
            have m1 := MM_map h hx3
            have m2 := MM_map h hy3
            rw [← ex] at m1
            rw [← ey] at m2
            have k2 := q5.at (a := 8) (by omega) k1
            have hlx := (g6 x hx3).lt
            have hly := (g6 y hy3).lt
            have hgo := Rn_gone (F := F) q2 hlx hly rnS_c i (by omega)
            have M1 : MMI σ1 (as, inp, B, P, Pl, L) := ⟨by rw [q5.1]; exact g0, k2, ⟨fm, q5.at (by omega) g2, g2'⟩, g3.fr q5 fun a _ _ z => by omega, q3, q4, fun k hk => (g6 k hk).fr q5 fun a _ _ z => by omega, q2.rn, ⟨lt, sp, g8.fr q5 fun a _ _ z => by omega, g9.fr q5 fun a _ _ z => by omega, Pl', L', g10.fr q5 fun a _ _ z => by omega⟩, g11.fr q5 fun a _ z => by omega⟩
            have hd1 : ∀ a, SaS 38 12 a → 8 ≤ a ∧ a < 95 := fun a ha => by omega
            have eo : opRen a b i w (as, inp, B, P, Pl, L) = match (if i < 0 then none else (rnl (rnS B (P x) (P y)) (gA (P x) (P y)).length)[i.toNatClampNeg]?) with
                | none => (2, 0, (as, inp, B, P, Pl, L))
                | some g => (0, rnV B (P x) (P y) g w, (as, inp, B, P, Pl, L)) := by
              unfold opRen
              simp only
              rw [if_pos (show (isM a && isM b && !decide (a = b) && decide (¬ w < 0) && decide (w ≤ 2)) = true by rw [ha, hbm, decide_eq_false hab, decide_eq_true hw0, decide_eq_true hw2]; rfl), ex2, ey2]
            rw [eo]
            simp only [(c8 k1).2.2.2.1, (c8 k1).2.2.1, m1, m2, q1, (c8 k2).2.2.2.1, hgo, Option.bind_some]
            have hmap : (if i < 0 then none else ((rnl (rnS B (P x) (P y)) (gA (P x) (P y)).length)[i.toNatClampNeg]?).map fun g => (gA (P x) (P y)).getD g 0) = (if i < 0 then none else (rnl (rnS B (P x) (P y)) (gA (P x) (P y)).length)[i.toNatClampNeg]?).map fun g => (gA (P x) (P y)).getD g 0 := by
              split <;> rfl
            rw [hmap]
            cases hg : (if i < 0 then none else (rnl (rnS B (P x) (P y)) (gA (P x) (P y)).length)[i.toNatClampNeg]?) with
            | none =>
              simp only [Option.map_none]
              exact read_no hb hbx hx q5 hd1 M1 (by rw [if_neg (show ¬ (0 : Int32) ≤ oI none by decide)])
            | some g =>
              have hgm : g < (gA (P x) (P y)).length ∧ ((rnS B (P x) (P y)).1 g).isSome = true := by
                by_cases hi0 : i < 0
                · rw [if_pos hi0] at hg; cases hg
                · rw [if_neg hi0] at hg
                  have := List.mem_of_getElem? hg
                  exact flt_mem.mp this
              obtain ⟨hg1, hg2⟩ := hgm
              obtain ⟨c, v, hcv⟩ : ∃ c v, (rnS B (P x) (P y)).1 g = some (c, v) := by
                cases hz : (rnS B (P x) (P y)).1 g with
                | none => rw [hz] at hg2; cases hg2
                | some cv => exact ⟨cv.1, cv.2, rfl⟩
              have hgl := (gA_get hg1).1
              have hc := rnS_c g c v hcv
              simp only [Option.map_some, oI_some, gA_getD hg1]
              rw [if_pos (nI_pos' (by omega))]
              unfold rnV
              rw [gA_getD hg1, hcv]
              by_cases w0 : w = 0
              · rw [if_pos w0, if_pos w0]
                exact read_ok hb hbx hx q5 hd1 M1 rfl
              · rw [if_neg w0, if_neg w0]
                simp only
                by_cases w1 : w = 1
                · rw [if_pos w1, if_pos w1]
                  have hp := Rn_partner (F := F) q2 hlx hgl
                  rw [prt_gone hg1, hcv] at hp
                  simp only [Option.map_some, oI_some] at hp
                  simp only [(c8 k2).2.2.2.1, hp, Option.bind_some]
                  exact read_ok hb hbx hx q5 hd1 M1 rfl
                · rw [if_neg w1, if_neg w1]
                  have hp := Rn_scoreOf (F := F) q2 hlx hg1 hcv
                  simp only [(c8 k2).2.2.2.1, hp, Option.bind_some]
                  exact read_ok hb hbx hx q5 hd1 M1 rfl
          · exact bad (by rw [if_neg hw2]) (by simp [hw2])
theorem Mg_latest {o p0 p1 p2 bl lt sp : Nat} (h : MgF σ o p0 p1 p2 bl lt sp) : f_Mg_latestOutcomes F σ o = some lt := by
  obtain ⟨⟨n, h0⟩, -⟩ := h
  unfold MgC at h0
  unfold f_Mg_latestOutcomes
  rw [am_ck_of h0, gA_of h0 (by rfl)]
  rfl
theorem sn_at {B : List (List Int32)} {Pl : PL} {L : List Rc} (hl : L.length ≤ 400) (h : snOK B Pl L) {i : Nat} (hi : i < Pl.length) : ∃ r, ∃ hr : r < L.length, Pl[i].2 = nI r ∧ snR Pl L i = L[r] ∧ L[r].2.2.2.2 = some (rcB L[r], rcT L[r]) ∧ ∀ k, rcB L[r] = some k → ∃ hk : k < B.length, B[k] = rcT L[r] := by
  obtain ⟨r, hr, b, t, e1, e2, e3⟩ := h i hi
  have eb : rcB L[r] = b := by unfold rcB; rw [e2]
  have et : rcT L[r] = t := by unfold rcT; rw [e2]
  refine ⟨r, hr, e1, ?_, by rw [eb, et]; exact e2, by rw [eb, et]; exact e3⟩
  unfold snR
  have : Pl.getD i ([], 0) = Pl[i] := by simp [hi]
  rw [this, e1, nI_clamp (by omega)]
  simp [hr]
theorem snP_of {Pl : PL} {i : Nat} (hi : i < Pl.length) : snP Pl i = Pl[i].1 := by simp [snP, hi]
theorem Lw_out (h : MMI σ s) (hw : MSW s) {bx : Nat} {f : Nat → Value} (hb : 95 ≤ bx) (hbx : bx < σ.1) (hx : σ.2.2 bx = some (.inl (.long, 1, f))) (i w : Int32) : ∃ σ', f_Lw_outcome F σ 8 i w bx = some ((opOut i w s).1, σ') ∧ MMI σ' (opOut i w s).2.2 ∧ Bx bx σ σ' (opOut i w s).1 (opOut i w s).2.1 := by
  have k1 := h.2.1
  have W0 : Fr (fun _ => False) σ σ := Fr.refl _ σ
  have hd0 : ∀ a, False → 8 ≤ a ∧ a < 95 := fun _ z => z.elim
  obtain ⟨lt, sp, g8, g9, -⟩ := h.2.2.2.2.2.2.2.2.1
  have hB := h.2.2.2.2.1
  unfold f_Lw_outcome f_MM_outcome opOut
  rw [am_ck_of k1]
  by_cases c1 : w < 0
  · rw [if_pos c1, if_neg (show ¬ (decide (¬ w < 0) && decide (w ≤ 6)) = true by simp [c1])]
    exact read_bad hb hbx hx W0 hd0 h rfl
  · rw [if_neg c1]
    by_cases c2 : w ≤ 6
    · rw [if_pos c2, if_pos (show (decide (¬ w < 0) && decide (w ≤ 6)) = true by simp [c1, c2])]
      rw [(c8 k1).2.2.2.2, Option.bind_some, Mg_latest g8, Option.bind_some, Oc_has g9, Option.bind_some]
      simp only [bo_0]
      by_cases hi : ¬ i < 0 ∧ i.toNatClampNeg < s.2.2.2.2.1.length
      · rw [if_neg (by simpa using hi), if_pos (decide_eq_true hi)]
        obtain ⟨k, hk, rfl⟩ := nI_of hi.1
        rw [nI_clamp hk] at hi ⊢
        have hil := hi.2
        obtain ⟨r, hr, r1, r2, r3, r4⟩ := sn_at g9.len hw.2.2 hil
        obtain ⟨st0, st1, st2⟩ := Oc_stage (F := F) g9 hil hr r1
        unfold ouV
        rw [r2, snP_of hil]
        by_cases w0 : w = 0
        · rw [if_pos w0, if_pos w0]
          exact read_ok hb hbx hx W0 hd0 h (by rw [Oc_pathLength g9 hil]; rfl)
        · rw [if_neg w0, if_neg w0]
          by_cases w1 : w = 1
          · rw [if_pos w1, if_pos w1]
            refine read_ok hb hbx hx W0 hd0 h ?_
            rw [Oc_isU g9 hil hr r1, Option.bind_some]
            simp only [bo_0]
            cases (s.2.2.2.2.2[r]).1 <;> rfl
          · rw [if_neg w1, if_neg w1]
            by_cases w2 : w = 2
            · rw [if_pos w2, if_pos w2]
              exact read_ok hb hbx hx W0 hd0 h (by rw [Oc_textLen g9 hB hil hr r1 r3 r4]; rfl)
            · rw [if_neg w2, if_neg w2]
              by_cases w3 : w = 3
              · rw [if_pos w3, if_pos w3]
                refine read_ok hb hbx hx W0 hd0 h ?_
                rw [w3, show (3 : Int32) - 3 = 0 by decide, st0]; rfl
              · rw [if_neg w3, if_neg w3]
                by_cases w4 : w = 4
                · rw [if_pos w4, if_pos w4]
                  refine read_ok hb hbx hx W0 hd0 h ?_
                  rw [w4, show (4 : Int32) - 3 = 1 by decide, st1]; rfl
                · rw [if_neg w4, if_neg w4]
                  by_cases w5 : w = 5
                  · rw [if_pos w5, if_pos w5]
                    refine read_ok hb hbx hx W0 hd0 h ?_
                    rw [w5, show (5 : Int32) - 3 = 2 by decide, st2]; rfl
                  · rw [if_neg w5, if_neg w5]
                    have w6 : w = 6 := by
                      obtain ⟨j, hj, rfl⟩ := nI_of c1
                      have hj6 : j ≤ 6 := (nI_leI (b := 6) hj (by omega)).mp c2
                      have : j = 6 := by
                        have a0 : j ≠ 0 := fun z => w0 (by rw [z]; rfl)
                        have a1 : j ≠ 1 := fun z => w1 (by rw [z]; rfl)
                        have a2 : j ≠ 2 := fun z => w2 (by rw [z]; rfl)
                        have a3 : j ≠ 3 := fun z => w3 (by rw [z]; rfl)
                        have a4 : j ≠ 4 := fun z => w4 (by rw [z]; rfl)
                        have a5 : j ≠ 5 := fun z => w5 (by rw [z]; rfl)
                        omega
                      rw [this]; rfl
                    rw [if_pos w6]
                    exact read_ok hb hbx hx W0 hd0 h (by rw [Oc_blob g9 hil hr r1 r3]; rfl)
      · rw [if_pos (by simpa using hi), if_neg (by simpa using hi)]
        exact read_no hb hbx hx W0 hd0 h rfl
    · rw [if_neg c2, if_neg (show ¬ (decide (¬ w < 0) && decide (w ≤ 6)) = true by simp [c2])]
      exact read_bad hb hbx hx W0 hd0 h rfl
theorem Lw_let (h : MMI σ s) (hw : MSW s) {bx : Nat} {f : Nat → Value} (hb : 95 ≤ bx) (hbx : bx < σ.1) (hx : σ.2.2 bx = some (.inl (.long, 1, f))) (i w k : Int32) (hL : ∀ i, i < s.2.2.2.2.1.length → (leL s.2.2.2.2.1 s.2.2.2.2.2 i w).length < 2 ^ 31) : ∃ σ', f_Lw_letter F σ 8 i w k bx = some ((opLet i w k s).1, σ') ∧ MMI σ' (opLet i w k s).2.2 ∧ Bx bx σ σ' (opLet i w k s).1 (opLet i w k s).2.1 := by
  have k1 := h.2.1
  have W0 : Fr (fun _ => False) σ σ := Fr.refl _ σ
  have hd0 : ∀ a, False → 8 ≤ a ∧ a < 95 := fun _ z => z.elim
  obtain ⟨lt, sp, g8, g9, -⟩ := h.2.2.2.2.2.2.2.2.1
  have hB := h.2.2.2.2.1
  unfold f_Lw_letter f_MM_letter opLet
  rw [am_ck_of k1]
  by_cases c1 : w < 0
  · rw [if_pos c1, if_neg (show ¬ (decide (¬ w < 0) && decide (w ≤ 1)) = true by simp [c1])]
    exact read_bad hb hbx hx W0 hd0 h rfl
  · rw [if_neg c1]
    by_cases c2 : w ≤ 1
    · rw [if_pos c2, if_pos (show (decide (¬ w < 0) && decide (w ≤ 1)) = true by simp [c1, c2])]
      rw [(c8 k1).2.2.2.2, Option.bind_some, Mg_latest g8, Option.bind_some, Oc_has g9, Option.bind_some]
      simp only [bo_0]
      by_cases hi : ¬ i < 0 ∧ i.toNatClampNeg < s.2.2.2.2.1.length
      · rw [if_neg (by simpa using hi), if_pos (decide_eq_true hi)]
        obtain ⟨q, hq, rfl⟩ := nI_of hi.1
        rw [nI_clamp hq] at hi ⊢
        have hil := hi.2
        obtain ⟨r, hr, r1, r2, r3, r4⟩ := sn_at g9.len hw.2.2 hil
        have hlq := hL q hil
        unfold leL at hlq ⊢
        rw [r2, snP_of hil] at hlq ⊢
        unfold f_MM_letter_j62
        by_cases w0 : w = 0
        · rw [if_pos w0] at hlq
          simp only [if_pos w0]
          rw [Oc_pathLength g9 hil, Option.bind_some]
          by_cases hk0 : k < 0
          · rw [if_pos hk0, if_pos (Or.inl hk0)]
            exact read_no hb hbx hx W0 hd0 h rfl
          · rw [if_neg hk0]
            obtain ⟨p, hp, rfl⟩ := nI_of hk0
            by_cases hkl : nI p < nI s.2.2.2.2.1[q].1.length
            · rw [if_pos hkl, if_neg (by rintro (z | z); exact hk0 z; exact z hkl), nI_clamp hp]
              have hpl := (nI_ltI hp hlq).mp hkl
              refine read_ok hb hbx hx W0 hd0 h ?_
              rw [Oc_pathByte g9 hil hpl]
              simp [hpl]
            · rw [if_neg hkl, if_pos (Or.inr hkl)]
              exact read_no hb hbx hx W0 hd0 h rfl
        · rw [if_neg w0] at hlq
          simp only [if_neg w0]
          rw [Oc_textLen g9 hB hil hr r1 r3 r4, Option.bind_some]
          by_cases hk0 : k < 0
          · rw [if_pos hk0, if_pos (Or.inl hk0)]
            exact read_no hb hbx hx W0 hd0 h rfl
          · rw [if_neg hk0]
            obtain ⟨p, hp, rfl⟩ := nI_of hk0
            by_cases hkl : nI p < nI (rcT s.2.2.2.2.2[r]).length
            · rw [if_pos hkl, if_neg (by rintro (z | z); exact hk0 z; exact z hkl), nI_clamp hp]
              have hpl := (nI_ltI hp hlq).mp hkl
              refine read_ok hb hbx hx W0 hd0 h ?_
              rw [Oc_textByte g9 hB hil hr r1 r3 r4 hpl]
              simp [hpl]
            · rw [if_neg hkl, if_pos (Or.inr hkl)]
              exact read_no hb hbx hx W0 hd0 h rfl
      · rw [if_pos (by simpa using hi), if_neg (by simpa using hi)]
        exact read_no hb hbx hx W0 hd0 h rfl
    · rw [if_neg c2, if_neg (show ¬ (decide (¬ w < 0) && decide (w ≤ 1)) = true by simp [c2])]
      exact read_bad hb hbx hx W0 hd0 h rfl
theorem Lw_blob (h : MMI σ s) {bx : Nat} {f : Nat → Value} (hb : 95 ≤ bx) (hbx : bx < σ.1) (hx : σ.2.2 bx = some (.inl (.long, 1, f))) (m i : Int32) : ∃ σ', f_Lw_blob F σ 8 m i bx = some ((opBlob m i s).1, σ') ∧ MMI σ' (opBlob m i s).2.2 ∧ Bx bx σ σ' (opBlob m i s).1 (opBlob m i s).2.1 := by
  have k1 := h.2.1
  have W0 : Fr (fun _ => False) σ σ := Fr.refl _ σ
  have hd0 : ∀ a, False → 8 ≤ a ∧ a < 95 := fun _ z => z.elim
  have h6 := h.2.2.2.2.2.2.1
  unfold f_Lw_blob f_MM_blob opBlob
  rw [am_ck_of k1, MM_isMap, Option.bind_some]
  cases hm : isM m with
  | false =>
    rw [if_pos (show bo false = 0 by decide), if_neg Bool.false_ne_true]
    exact read_bad hb hbx hx W0 hd0 h rfl
  | true =>
    rw [if_neg (show ¬ bo true = 0 by decide), if_pos rfl]
    obtain ⟨k, hk3, ek, ek2⟩ := isM_lt hm
    have mp := MM_map h hk3
    rw [← ek] at mp
    rw [ek2]
    simp only [(c8 k1).2.2.1, mp, Option.bind_some]
    rw [Pm_has (h6 k hk3), Option.bind_some]
    simp only [bo_0]
    by_cases hi : ¬ i < 0 ∧ i.toNatClampNeg < (s.2.2.2.1 k).length
    · rw [if_neg (by simpa using hi), if_pos (decide_eq_true hi)]
      obtain ⟨q, hq, rfl⟩ := nI_of hi.1
      rw [nI_clamp hq] at hi ⊢
      refine read_ok hb hbx hx W0 hd0 h ?_
      rw [Pm_value (h6 k hk3) hi.2, valI_of hi.2]
      rfl
    · rw [if_pos (by simpa using hi), if_neg (by simpa using hi)]
      exact read_no hb hbx hx W0 hd0 h rfl
theorem MM_count (h : MMI σ s) (w : Int32) : f_MM_count F σ 8 w = some (coV w s) := by
  have k1 := h.2.1
  obtain ⟨-, -, -, h3, h4, -, h6, -, ⟨lt, sp, g8, g9, -⟩, -⟩ := id h
  have m0 := MM_map h (k := 0) (by omega)
  have m1 := MM_map h (k := 1) (by omega)
  have m2 := MM_map h (k := 2) (by omega)
  have z0 := Pm_size (F := F) (h6 0 (by omega))
  have z1 := Pm_size (F := F) (h6 1 (by omega))
  have z2 := Pm_size (F := F) (h6 2 (by omega))
  have b1 := Bl_size (F := F) h4
  have b2 := Bl_total (F := F) h4
  have l1 := Mg_latest (F := F) g8
  have l2 := Oc_size (F := F) g9
  have i1 := In_len (F := F) h3
  have i2 := In_count (F := F) h3
  unfold f_MM_count coV
  rw [am_ck_of k1]
  by_cases w0 : w = 0
  · subst w0
    rw [if_pos rfl, if_pos rfl]
    rw [nI_0] at m0
    simp only [(c8 k1).2.2.1, m0, z0, Option.bind_some]
  · rw [if_neg w0, if_neg w0]
    by_cases w1 : w = 1
    · subst w1
      rw [if_pos rfl, if_pos rfl]
      have n1 : nI 1 = 1 := rfl
      rw [n1] at m1
      simp only [(c8 k1).2.2.1, m1, z1, Option.bind_some]
    · rw [if_neg w1, if_neg w1]
      by_cases w2 : w = 2
      · subst w2
        rw [if_pos rfl, if_pos rfl]
        have n2 : nI 2 = 2 := rfl
        rw [n2] at m2
        simp only [(c8 k1).2.2.1, m2, z2, Option.bind_some]
      · rw [if_neg w2, if_neg w2]
        simp only [(c8 k1).1, (c8 k1).2.1, (c8 k1).2.2.2.2, b1, b2, l1, l2, i1, i2, Option.bind_some]
        split
        · rfl
        · split
          · rfl
          · split
            · rfl
            · split
              · rfl
              · split <;> rfl
end MQ
