/-! ===== L3: MERGING by itself: groups, records; Merging's rows ===== -/
abbrev Gp : Type := Option Nat × Option Nat × Option Nat
abbrev GSt : Type := List Gp × (Nat → Bool) × (Nat → Bool)
def mrk (u : Nat → Bool) : Option Nat → (Nat → Bool)
  | some a => fun i => if i = a then true else u i
  | none => u
def gadd (s : GSt) (g : Gp) : GSt := (s.1 ++ [g], mrk s.2.1 g.2.1, mrk s.2.2 g.2.2)
def gst0 (pa pb : Nat → Option Nat) (s : GSt) (p : Nat) : GSt := gadd s (some p, pa p, pb p)
def gth (P1 P2 : PL) (u2 : Nat → Bool) (a : Nat) : Option Nat := match fnd P2 (pth P1 a) with
  | some b => if u2 b = true then none else some b
  | none => none
def gst1 (P1 P2 : PL) (s : GSt) (a : Nat) : GSt := if s.2.1 a = true then s else gadd s (none, some a, gth P1 P2 s.2.2 a)
def gst2 (s : GSt) (b : Nat) : GSt := if s.2.2 b = true then s else gadd s (none, none, some b)
def gs0 : GSt := ([], fun _ => false, fun _ => false)
def gph0 (B : List (List Int32)) (P0 P1 P2 : PL) (n : Nat) : GSt := (List.range' 0 n).foldl (gst0 (prt P0 P1 (rnS B P0 P1)) (prt P0 P2 (rnS B P0 P2))) gs0
def gph1 (B : List (List Int32)) (P0 P1 P2 : PL) (n : Nat) : GSt := (List.range' 0 n).foldl (gst1 P1 P2) (gph0 B P0 P1 P2 P0.length)
def gph2 (B : List (List Int32)) (P0 P1 P2 : PL) (n : Nat) : GSt := (List.range' 0 n).foldl gst2 (gph1 B P0 P1 P2 P1.length)
def grps (B : List (List Int32)) (P0 P1 P2 : PL) : List Gp := (gph2 B P0 P1 P2 P2.length).1
theorem foldl_r' {β : Type} (f : β → Nat → β) (s : β) (n : Nat) : (List.range' 0 (n + 1)).foldl f s = f ((List.range' 0 n).foldl f s) n := by
  rw [← List.range'_append_1]
  simp
/-- which indices may stand in a group -/
def gOK (P0 P1 P2 : PL) (g : Gp) : Prop := (∀ p, g.1 = some p → p < P0.length) ∧ (∀ a, g.2.1 = some a → a < P1.length) ∧ (∀ b, g.2.2 = some b → b < P2.length)
theorem rnS_c {B : List (List Int32)} {P Q : PL} : ∀ g c v, (rnS B P Q).1 g = some (c, v) → c < (gA Q P).length := by
  have key : ∀ (f : Nat → Nat → Nat) (G C n : Nat) (s : PSt), (∀ g c v, s.1 g = some (c, v) → c < C) → ∀ g c v, (grd f G C n s).1 g = some (c, v) → c < C := by
    intro f G C n
    induction n with
    | zero => intro s hs; exact hs
    | succ n ih =>
      intro s hs
      rw [grd]
      have hok := best_ok f s G C
      cases hb : best f s G C with
      | mk a v =>
        rw [hb] at hok
        cases a with
        | none => exact hs
        | some gc =>
          obtain ⟨g, c⟩ := gc
          rcases hok with ⟨hz, -⟩ | ⟨g', c', e1, e2, e3, e4, -⟩
          · cases hz
          · cases e1
            exact ih _ (joinS_c hs e4)
  exact key _ _ _ _ _ (fun g c v hz => by cases hz)
theorem prt_ok {B : List (List Int32)} {P Q : PL} {k j : Nat} (h : prt P Q (rnS B P Q) k = some j) : j < Q.length := prt_lt rnS_c h
def stay (P0 P : PL) (p i : Option Nat) : Bool := match p, i with
  | some p, some i => decide (pth P0 p = pth P i)
  | _, _ => false
def gsrc (P0 P1 P2 : PL) (g : Gp) : Option Nat × Option Nat × Option Nat := (g.1.map (valN P0), g.2.1.map (valN P1), g.2.2.map (valN P2))
/-- the PATH and whether it's UNMERGED by the PATHS alone -/
def grec (P0 P1 P2 : PL) (g : Gp) : Option (List Int32 × Bool) := match g with
  | (_, none, none) => none
  | (p, some a, none) => if stay P0 P1 p (some a) && decide (p.map (valN P0) = some (valN P1 a)) then none else some (pth P1 a, p.isSome)
  | (p, none, some b) => if stay P0 P2 p (some b) && decide (p.map (valN P0) = some (valN P2 b)) then none else some (pth P2 b, p.isSome)
  | (p, some a, some b) => if pth P1 a = pth P2 b then some (pth P1 a, false) else if stay P0 P1 p (some a) then some (pth P2 b, false) else some (pth P1 a, !stay P0 P2 p (some b))
/-- UNMERGED, the BLOB if it is one, the TEXT -/
def gtxt (B : List (List Int32)) (s : Option Nat × Option Nat × Option Nat) (u : Bool) : Bool × Option Nat × List Int32 := match s with
  | (_, none, none) => (u, none, [])
  | (_, some x, none) => (u, some x, B.getD x [])
  | (_, none, some y) => (u, some y, B.getD y [])
  | (s0, some x, some y) => if x = y ∨ s0 = some y then (u, some x, B.getD x []) else if s0 = some x then (u, some y, B.getD y []) else
      if (u || (mrgT (bT B s0) (B.getD x []) (B.getD y [])).2) = true then (true, none, (mrgT (bT B s0) (B.getD x []) (B.getD y [])).1) else (false, bfnd B (mrgT (bT B s0) (B.getD x []) (B.getD y [])).1, (mrgT (bT B s0) (B.getD x []) (B.getD y [])).1)
/-- a record before its TEXT, and with it -/
def rc0 (s : Option Nat × Option Nat × Option Nat) (u : Bool) : Rc := (u, oI s.1, oI s.2.1, oI s.2.2, none)
def rc1 (B : List (List Int32)) (s : Option Nat × Option Nat × Option Nat) (u : Bool) : Rc := ((gtxt B s u).1, oI s.1, oI s.2.1, oI s.2.2, some (gtxt B s u).2)
abbrev Rq : Type := List Int32 × (Option Nat × Option Nat × Option Nat) × Bool
def rqs (P0 P1 P2 : PL) (gs : List Gp) : List Rq := gs.filterMap fun g => (grec P0 P1 P2 g).map fun x => (x.1, gsrc P0 P1 P2 g, x.2)
def adb (P : PL) (q : List Int32) : Bool := !(fnd P q).isSome && room P q
def plcs : PL → List (List Int32) → Option PL
  | P, [] => some P
  | P, q :: qs => if adb P q = true then plcs (asgP P q (nI P.length)) qs else none
/-- what MERGING gives -/
def mrgM (B : List (List Int32)) (P0 P1 P2 : PL) : Option (PL × List Rc) := match plcs [] ((rqs P0 P1 P2 (grps B P0 P1 P2)).map fun r => r.1) with
  | none => none
  | some Pl => if frS ((rqs P0 P1 P2 (grps B P0 P1 P2)).map fun r => rc1 B r.2.1 r.2.2) ≤ 65536 then some (Pl, (rqs P0 P1 P2 (grps B P0 P1 P2)).map fun r => rc1 B r.2.1 r.2.2) else none
def MgC (σ : am_S) (o p0 p1 p2 bl n lt sp : Nat) : Prop := σ.2.2 o = some (cO 6 [.ref p0, .ref p1, .ref p2, .ref bl, .ref (o + 6), .ref (o + 13), .ref (o + 1), .ref (o + 2), .ref (o + 3), .ref (o + 4), .ref (o + 5), .ref (o + 20), .int (nI n), .ref lt, .ref sp])
/-- the rows of the groups -/
def GrI (σ : am_S) (o p0 p1 p2 bl lt sp : Nat) (s : GSt) : Prop := ∃ u1 u2 gp ga gb, MgC σ o p0 p1 p2 bl s.1.length lt sp ∧ σ.2.2 (o + 1) = some (cZ 400 u1) ∧ σ.2.2 (o + 2) = some (cZ 400 u2) ∧ σ.2.2 (o + 3) = some (cI 1200 gp) ∧ σ.2.2 (o + 4) = some (cI 1200 ga) ∧ σ.2.2 (o + 5) = some (cI 1200 gb) ∧ (∀ k, k < 400 → u1 k = bo (s.2.1 k) ∧ u2 k = bo (s.2.2 k)) ∧ ∀ k (h : k < s.1.length), gp k = oI s.1[k].1 ∧ ga k = oI s.1[k].2.1 ∧ gb k = oI s.1[k].2.2
abbrev GrS (o : Nat) : Nat → Prop := fun a => o ≤ a ∧ a ≤ o + 5
theorem GrI.fr {σ σ1 : am_S} {o p0 p1 p2 bl lt sp : Nat} {s : GSt} {S : Nat → Prop} (h : GrI σ o p0 p1 p2 bl lt sp s) (hf : Fr S σ σ1) (hd : ∀ a, o ≤ a → a ≤ o + 5 → ¬ S a) : GrI σ1 o p0 p1 p2 bl lt sp s := by
  obtain ⟨u1, u2, gp, ga, gb, h0, h1, h2, h3, h4, h5, h⟩ := h
  exact ⟨u1, u2, gp, ga, gb, hf.at (hd _ (by omega) (by omega)) h0, hf.at (hd _ (by omega) (by omega)) h1, hf.at (hd _ (by omega) (by omega)) h2, hf.at (hd _ (by omega) (by omega)) h3, hf.at (hd _ (by omega) (by omega)) h4, hf.at (hd _ (by omega) (by omega)) h5, h⟩
theorem mrk_row {u : Nat → Int32} {v : Nat → Bool} {a : Nat} (h : ∀ k, k < 400 → u k = bo (v k)) : ∀ k, k < 400 → uf u a (1 &&& 1) k = bo (mrk v (some a) k) := by
  intro k hk
  simp only [mrk]
  by_cases e : k = a
  · subst e; rw [uf_same, if_pos rfl]; rfl
  · rw [uf_ne e, if_neg e, h k hk]
section GR
variable {o p0 p1 p2 bl lt sp F : Nat} {B : List (List Int32)} {P0 P1 P2 : PL}
theorem Mg_listGroup {σ : am_S} {s : GSt} {g : Gp} (h : GrI σ o p0 p1 p2 bl lt sp s) (h8 : 8 ≤ o) (hn : s.1.length < 1200) (ha : ∀ a, g.2.1 = some a → a < 400) (hb : ∀ b, g.2.2 = some b → b < 400) : ∃ σ', f_Mg_listGroup F σ o (oI g.1) (oI g.2.1) (oI g.2.2) = some σ' ∧ GrI σ' o p0 p1 p2 bl lt sp (gadd s g) ∧ Fr (GrS o) σ σ' := by
  obtain ⟨u1, u2, gp, ga, gb, h0, h1, h2, h3, h4, h5, h6, h7⟩ := h
  unfold MgC at h0
  unfold f_Mg_listGroup
  simp (disch := first | omega | (simp only [List.length_cons, List.length_nil] <;> omega)) only [sx_ck, xk_s, sx_gI, sx_gA, xg_s, xi_s, xa_s, List.getElem?_cons_zero, List.getElem?_cons_succ, sx_lI, sx_lA, xl_s, xl_v, sx_pI, sx_pA, xp_s, List.set_cons_zero, List.set_cons_succ, sx_sI, sx_sB, sx_sZ, sx_sS, xs_s, sx_cp, xc_s, put_at, put_ne, new_at, new_ne, Option.bind_some, am_b2, sx_len, xn_s, h0, h1, h3, h4, h5, nI_1]
  generalize hτ : am_put _ _ _ = τ
  have hf : Fr (GrS o) σ τ := hτ ▸ ((((Fr.refl _ _).p ⟨by omega, by omega⟩).p ⟨by omega, by omega⟩).p ⟨by omega, by omega⟩).p ⟨by omega, by omega⟩
  have t0 : MgC τ o p0 p1 p2 bl (s.1.length + 1) lt sp := by unfold MgC; subst hτ; simp (disch := omega) only [put_at, put_ne, new_at, new_ne]
  have t1 : τ.2.2 (o + 1) = some (cZ 400 u1) := by subst hτ; simp (disch := omega) only [put_at, put_ne, new_at, new_ne, h1]
  have t2 : τ.2.2 (o + 2) = some (cZ 400 u2) := by subst hτ; simp (disch := omega) only [put_at, put_ne, new_at, new_ne, h2]
  have t3 : τ.2.2 (o + 3) = some (cI 1200 (uf gp s.1.length (oI g.1))) := by subst hτ; simp (disch := omega) only [put_at, put_ne, new_at, new_ne]
  have t4 : τ.2.2 (o + 4) = some (cI 1200 (uf ga s.1.length (oI g.2.1))) := by subst hτ; simp (disch := omega) only [put_at, put_ne, new_at, new_ne]
  have t5 : τ.2.2 (o + 5) = some (cI 1200 (uf gb s.1.length (oI g.2.2))) := by subst hτ; simp (disch := omega) only [put_at, put_ne, new_at, new_ne]
  have hrow : ∀ k (h : k < (s.1 ++ [g]).length), uf gp s.1.length (oI g.1) k = oI (s.1 ++ [g])[k].1 ∧ uf ga s.1.length (oI g.2.1) k = oI (s.1 ++ [g])[k].2.1 ∧ uf gb s.1.length (oI g.2.2) k = oI (s.1 ++ [g])[k].2.2 := by
    intro k hk
    rw [List.length_append, List.length_singleton] at hk
    by_cases e : k = s.1.length
    · subst e
      simp only [uf_same, List.getElem_append_right (Nat.le_refl _), Nat.sub_self, List.getElem_cons_zero, and_self]
    · have hk' : k < s.1.length := by omega
      rw [uf_ne e, uf_ne e, uf_ne e]
      simp only [List.getElem_append_left hk']
      exact h7 k hk'
  have ours : ∃ σ1 u1', (if oI g.2.1 < 0 then f_Mg_listGroup_j51 F o (oI g.2.2) τ else (xs τ (o + 1) (some (cZ 400 u1)) .boolean (oI g.2.1) (.int (1 &&& 1))).bind fun σ15 => f_Mg_listGroup_j51 F o (oI g.2.2) σ15) = f_Mg_listGroup_j51 F o (oI g.2.2) σ1 ∧ σ1.2.2 (o + 1) = some (cZ 400 u1') ∧ (∀ k, k < 400 → u1' k = bo (mrk s.2.1 g.2.1 k)) ∧ Fr (fun a => a = o + 1) τ σ1 := by
    cases hg : g.2.1 with
    | none =>
      rw [if_pos (show oI none < 0 by decide)]
      exact ⟨τ, u1, rfl, t1, fun k hk => (h6 k hk).1, Fr.refl _ _⟩
    | some a =>
      have := ha a hg
      rw [if_neg (show ¬ oI (some a) < 0 from nI_pos (by omega)), oI_some]
      simp (disch := first | omega | (simp only [List.length_cons, List.length_nil] <;> omega)) only [sx_ck, xk_s, sx_gI, sx_gA, xg_s, xi_s, xa_s, List.getElem?_cons_zero, List.getElem?_cons_succ, sx_lI, sx_lA, xl_s, xl_v, sx_pI, sx_pA, xp_s, List.set_cons_zero, List.set_cons_succ, sx_sI, sx_sB, sx_sZ, sx_sS, xs_s, sx_cp, xc_s, put_at, put_ne, new_at, new_ne, Option.bind_some, am_b2, sx_len, xn_s]
      exact ⟨_, _, rfl, put_at _ _ _, mrk_row fun k hk => (h6 k hk).1, (Fr.refl (fun a => a = o + 1) _).p rfl⟩
  obtain ⟨σ1, u1', e1, x1, x2, x3⟩ := ours
  unfold MgC at t0
  have theirs : ∃ σ2 u2', f_Mg_listGroup_j51 F o (oI g.2.2) σ1 = some σ2 ∧ σ2.2.2 (o + 2) = some (cZ 400 u2') ∧ (∀ k, k < 400 → u2' k = bo (mrk s.2.2 g.2.2 k)) ∧ Fr (fun a => a = o + 2) σ1 σ2 := by
    have y0 := x3.at (a := o) (by omega) t0
    have y2 := x3.at (a := o + 2) (by omega) t2
    unfold f_Mg_listGroup_j51
    cases hg : g.2.2 with
    | none =>
      rw [if_pos (show oI none < 0 by decide)]
      exact ⟨σ1, u2, rfl, y2, fun k hk => (h6 k hk).2, Fr.refl _ _⟩
    | some a =>
      have := hb a hg
      rw [if_neg (show ¬ oI (some a) < 0 from nI_pos (by omega)), oI_some]
      simp (disch := first | omega | (simp only [List.length_cons, List.length_nil] <;> omega)) only [sx_ck, xk_s, sx_gI, sx_gA, xg_s, xi_s, xa_s, List.getElem?_cons_zero, List.getElem?_cons_succ, sx_lI, sx_lA, xl_s, xl_v, sx_pI, sx_pA, xp_s, List.set_cons_zero, List.set_cons_succ, sx_sI, sx_sB, sx_sZ, sx_sS, xs_s, sx_cp, xc_s, put_at, put_ne, new_at, new_ne, Option.bind_some, am_b2, sx_len, xn_s, y0, y2]
      exact ⟨_, _, rfl, put_at _ _ _, mrk_row fun k hk => (h6 k hk).2, (Fr.refl (fun a => a = o + 2) _).p rfl⟩
  obtain ⟨σ2, u2', e2, z1, z2, z3⟩ := theirs
  refine ⟨σ2, ?_, ⟨u1', u2', _, _, _, ?_, z3.at (by omega) x1, z1, z3.at (by omega) (x3.at (by omega) t3), z3.at (by omega) (x3.at (by omega) t4), z3.at (by omega) (x3.at (by omega) t5), fun k hk => ⟨x2 k hk, z2 k hk⟩, hrow⟩, hf.trans ((x3.mono fun a ha => ⟨by omega, by omega⟩).trans (z3.mono fun a ha => ⟨by omega, by omega⟩))⟩
  · rw [← e2]
    exact e1
  · have : (gadd s g).1.length = s.1.length + 1 := by simp [gadd]
    unfold MgC
    rw [this]
    exact z3.at (by omega) (x3.at (by omega) t0)
end GR
